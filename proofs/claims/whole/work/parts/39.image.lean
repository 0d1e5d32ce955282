/-! THE IMAGE -/
theorem cp0 {f g : Nat → Int} {n p : Nat} (h : p < n) : (if 0 ≤ p ∧ p < 0 + n then f (0 + (p - 0)) else g p) = f p := by
  rw [if_pos (by omega), show 0 + (p - 0) = p by omega]
theorem x_tb1 {A : Nat → Int} {M : pm_M} (w : A 0 ≤ 8) (h : rT 24 A M) : ok (f_Told_become_3_24 M) (fun M' => rT 3 A M' ∧ fr [3, 4, 5, 6, 7, 8, 9, 10, 11, 12, 13] M M') := by
  obtain ⟨⟨t1, t2, t3, t4, t5⟩, t6, t7, t8, t9⟩ := h
  unfold f_Told_become_3_24
  refine ok_bd (ok_bd (ok_bd (ok_bd (ok_bd (ok_bd (ok_bd (ok_bd (ok_bd (ok_bd (ok_bd (ok_bd (ok_bd (ok_bd (ok_bd (ok_some ⟨⟨⟨?_, ?_, ?_, ?_, ?_⟩, fun p hp => ⟨?_, ?_, ?_, ?_⟩, fun p hp => ?_, fun p hp => ⟨?_, ?_⟩, fun p hp => ⟨?_, ?_, ?_⟩⟩, ?_⟩)))))))))))))))
  · exact t1
  · exact t2
  · exact t3
  · exact t4
  · exact t5
  · exact (cp0 (f := M 25) (g := M 4) hp).trans (t6 p hp).1
  · exact (cp0 (f := M 26) (g := M 5) hp).trans (t6 p hp).2.1
  · exact (cp0 (f := M 27) (g := M 6) hp).trans (t6 p hp).2.2.1
  · exact (cp0 (f := M 28) (g := M 7) hp).trans (t6 p hp).2.2.2
  · exact (cp0 (f := M 29) (g := M 8) (n := 8) (by omega)).trans (t7 p hp)
  · exact (cp0 (f := M 30) (g := M 9) hp).trans (t8 p hp).1
  · exact (cp0 (f := M 31) (g := M 10) hp).trans (t8 p hp).2
  · exact (cp0 (f := M 32) (g := M 11) hp).trans (t9 p hp).1
  · exact (cp0 (f := M 33) (g := M 12) hp).trans (t9 p hp).2.1
  · exact (cp0 (f := M 34) (g := M 13) hp).trans (t9 p hp).2.2
  · repeat (first | exact fr_cp (by decide) | refine fr_2 ?_ (fr_ms (by decide)) | refine fr_2 ?_ (fr_cp (by decide)))
theorem x_tb2 {A : Nat → Int} {M : pm_M} (w : A 0 ≤ 8) (h : rT 3 A M) : ok (f_Told_become_24_3 M) (fun M' => rT 24 A M' ∧ fr [24, 25, 26, 27, 28, 29, 30, 31, 32, 33, 34] M M') := by
  obtain ⟨⟨t1, t2, t3, t4, t5⟩, t6, t7, t8, t9⟩ := h
  unfold f_Told_become_24_3
  refine ok_bd (ok_bd (ok_bd (ok_bd (ok_bd (ok_bd (ok_bd (ok_bd (ok_bd (ok_bd (ok_bd (ok_bd (ok_bd (ok_bd (ok_bd (ok_some ⟨⟨⟨?_, ?_, ?_, ?_, ?_⟩, fun p hp => ⟨?_, ?_, ?_, ?_⟩, fun p hp => ?_, fun p hp => ⟨?_, ?_⟩, fun p hp => ⟨?_, ?_, ?_⟩⟩, ?_⟩)))))))))))))))
  · exact t1
  · exact t2
  · exact t3
  · exact t4
  · exact t5
  · exact (cp0 (f := M 4) (g := M 25) hp).trans (t6 p hp).1
  · exact (cp0 (f := M 5) (g := M 26) hp).trans (t6 p hp).2.1
  · exact (cp0 (f := M 6) (g := M 27) hp).trans (t6 p hp).2.2.1
  · exact (cp0 (f := M 7) (g := M 28) hp).trans (t6 p hp).2.2.2
  · exact (cp0 (f := M 8) (g := M 29) (n := 8) (by omega)).trans (t7 p hp)
  · exact (cp0 (f := M 9) (g := M 30) hp).trans (t8 p hp).1
  · exact (cp0 (f := M 10) (g := M 31) hp).trans (t8 p hp).2
  · exact (cp0 (f := M 11) (g := M 32) hp).trans (t9 p hp).1
  · exact (cp0 (f := M 12) (g := M 33) hp).trans (t9 p hp).2.1
  · exact (cp0 (f := M 13) (g := M 34) hp).trans (t9 p hp).2.2
  · repeat (first | exact fr_cp (by decide) | refine fr_2 ?_ (fr_ms (by decide)) | refine fr_2 ?_ (fr_cp (by decide)))
theorem x_sb1 {A : Nat → Int} {M : pm_M} (w : 0 ≤ A 4 ∧ A 4 ≤ 20) (h : rS 1 A M) : ok (f_Steps_become_16_1 M) (fun M' => rS 16 A M' ∧ fr [16, 17] M M') := by
  obtain ⟨h1, h2, h3⟩ := h
  unfold f_Steps_become_16_1
  refine ok_bd (ok_bd (ok_bd (ok_some ⟨⟨h1, h2, fun j hj i hi => ?_⟩, ?_⟩)))
  · refine Eq.trans ?_ (h3 j hj i hi)
    exact cp0 (f := M 2) (g := M 17) (n := 3720) (by omega)
  · repeat (first | exact fr_cp (by decide) | refine fr_2 ?_ (fr_ms (by decide)))
theorem x_sb2 {A : Nat → Int} {M : pm_M} (w : 0 ≤ A 4 ∧ A 4 ≤ 20) (h : rS 16 A M) : ok (f_Steps_become_1_16 M) (fun M' => rS 1 A M' ∧ fr [1, 2] M M') := by
  obtain ⟨h1, h2, h3⟩ := h
  unfold f_Steps_become_1_16
  refine ok_bd (ok_bd (ok_bd (ok_some ⟨⟨h1, h2, fun j hj i hi => ?_⟩, ?_⟩)))
  · refine Eq.trans ?_ (h3 j hj i hi)
    exact cp0 (f := M 17) (g := M 2) (n := 3720) (by omega)
  · repeat (first | exact fr_cp (by decide) | refine fr_2 ?_ (fr_ms (by decide)))
theorem x_image {A : Nat → Int} {M : pm_M} (hA : WF A) (h : CX 24 36 1 A M) : ok (f_X_image M) (fun y => y.1 = A 99 ∧ CX 3 15 16 A y.2 ∧ fr [3, 4, 5, 6, 7, 8, 9, 10, 11, 12, 13, 15, 16, 17] M y.2) := by
  obtain ⟨hT, hR, hS⟩ := h
  unfold f_X_image
  refine ok_bind (x_tb1 hA.1.2 hT) (fun M1 k1 => ?_)
  unfold f_Moment_become_14_35
  refine ok_be rfl ?_
  have g36 : M1 36 = M 36 := k1.2 36 (by decide)
  have k2 : fr [15] M1 (pm_cp M1 36 15 0 0 186) := fr_cp (by decide)
  have k2r : ∀ i, i < 186 → pm_cp M1 36 15 0 0 186 15 i = M 36 i := fun i hi => by rw [← g36]; exact cp0 (f := M1 36) (g := M1 15) hi
  generalize pm_cp M1 36 15 0 0 186 = M2 at k2 k2r ⊢
  refine ok_bind (x_sb1 hA.2.2.2.2.1 (rS_congr (by rw [k2 1 (by decide), k1.2 1 (by decide)]) (by rw [k2 2 (by decide), k1.2 2 (by decide)]) hS)) (fun M3 k3 => ?_)
  unfold f_Moment_day
  refine ok_be rfl (ok_some ⟨?_, ⟨?_, ?_, k3.1⟩, fr_tr (fr_tr k1.2 k2 (S := [3, 4, 5, 6, 7, 8, 9, 10, 11, 12, 13, 15]) (by decide) (by decide)) k3.2 (by decide) (by decide)⟩)
  · show M3 36 29 = _
    rw [k3.2 36 (by decide), k2 36 (by decide), g36]; exact hR 29 (by omega)
  · exact rT_congr (fun k hk => by show M3 (3 + k) = _; rw [k3.2 (3 + k) (by simp; omega), k2 (3 + k) (by simp; omega)]) k1.1
  · intro i hi
    show M3 15 i = _
    rw [k3.2 15 (by decide), k2r i hi]; exact hR i hi
theorem x_back {A : Nat → Int} {M : pm_M} (hA : WF A) (h : CX 3 15 16 A M) : ok (f_X_back M) (fun y => y.1 = A 99 ∧ CX 24 36 1 A y.2 ∧ fr [1, 2, 24, 25, 26, 27, 28, 29, 30, 31, 32, 33, 34, 36] M y.2) := by
  obtain ⟨hT, hR, hS⟩ := h
  unfold f_X_back
  refine ok_bind (x_tb2 hA.1.2 hT) (fun M1 k1 => ?_)
  unfold f_Moment_become_35_14
  refine ok_be rfl ?_
  have g15 : M1 15 = M 15 := k1.2 15 (by decide)
  have k2 : fr [36] M1 (pm_cp M1 15 36 0 0 186) := fr_cp (by decide)
  have k2r : ∀ i, i < 186 → pm_cp M1 15 36 0 0 186 36 i = M 15 i := fun i hi => by rw [← g15]; exact cp0 (f := M1 15) (g := M1 36) hi
  generalize pm_cp M1 15 36 0 0 186 = M2 at k2 k2r ⊢
  refine ok_bind (x_sb2 hA.2.2.2.2.1 (rS_congr (by rw [k2 16 (by decide), k1.2 16 (by decide)]) (by rw [k2 17 (by decide), k1.2 17 (by decide)]) hS)) (fun M3 k3 => ?_)
  unfold f_Moment_day
  refine ok_be rfl (ok_some ⟨?_, ⟨?_, ?_, k3.1⟩, fr_tr (fr_tr k1.2 k2 (S := [24, 25, 26, 27, 28, 29, 30, 31, 32, 33, 34, 36]) (by decide) (by decide)) k3.2 (by decide) (by decide)⟩)
  · show M3 36 29 = _
    rw [k3.2 36 (by decide), k2r 29 (by omega)]; exact hR 29 (by omega)
  · exact rT_congr (fun k hk => by show M3 (24 + k) = _; rw [k3.2 (24 + k) (by simp; omega), k2 (24 + k) (by simp; omega)]) k1.1
  · intro i hi
    show M3 36 i = _
    rw [k3.2 36 (by decide), k2r i hi]; exact hR i hi
-- the reference
theorem q_cpL1 (M0 : pm_M) : ∀ (k n y : Nat) (M : pm_M), y + k = 4012 → k < n → M 88 = M0 88 → M 89 = (fun i => if i < y then M0 88 i else M0 89 i) → ok (f_Q_copies_L2 n 1 y M) (fun M' => M' 88 = M0 88 ∧ M' 89 = (fun i => if i < 4012 then M0 88 i else M0 89 i) ∧ fr [89] M M') := by
  intro k
  induction k with
  | zero =>
    intro n y M hy hn h8 h9
    cases n with
    | zero => omega
    | succ n =>
      unfold f_Q_copies_L2
      refine ok_pos (by omega) (ok_some ⟨h8, ?_, fr_rf _ _⟩)
      rw [h9, show y = 4012 by omega]
  | succ k ih =>
    intro n y M hy hn h8 h9
    cases n with
    | zero => omega
    | succ n =>
      unfold f_Q_copies_L2
      rw [i_ad_eq (by omega), tn_nat]
      refine ok_neg (by omega) (ok_neg (by omega) (ok_pos (by omega) (ok_pos (by omega) (ok_bd ?_))))
      refine ok_mono (ih n (y + 1) (pm_ms M 89 y (M 88 y)) (by omega) (by omega) ?_ ?_) (fun M' h => ⟨h.1, h.2.1, fr_2 (fr_ms (by decide)) h.2.2⟩)
      · rw [msn, if_neg (by omega)]; exact h8
      · rw [msc, h9, h8]
        funext i
        rw [aSn]
        by_cases hi : i = y
        · rw [if_pos hi, if_pos (by omega), hi]
        · rw [if_neg hi]
          by_cases h2 : i < y
          · rw [if_pos h2, if_pos (by omega)]
          · rw [if_neg h2, if_neg (by omega)]
theorem q_cpL0 (M0 : pm_M) : ∀ (k n y : Nat) (M : pm_M), y + k = 4012 → k < n → M 89 = M0 89 → M 88 = (fun i => if i < y then M0 89 i else M0 88 i) → ok (f_Q_copies_L2 n 0 y M) (fun M' => M' 89 = M0 89 ∧ M' 88 = (fun i => if i < 4012 then M0 89 i else M0 88 i) ∧ fr [88] M M') := by
  intro k
  induction k with
  | zero =>
    intro n y M hy hn h8 h9
    cases n with
    | zero => omega
    | succ n =>
      unfold f_Q_copies_L2
      refine ok_pos (by omega) (ok_some ⟨h8, ?_, fr_rf _ _⟩)
      rw [h9, show y = 4012 by omega]
  | succ k ih =>
    intro n y M hy hn h8 h9
    cases n with
    | zero => omega
    | succ n =>
      unfold f_Q_copies_L2
      rw [i_ad_eq (by omega), tn_nat]
      refine ok_neg (by omega) (ok_pos rfl (ok_pos (by omega) (ok_pos (by omega) (ok_bd ?_))))
      refine ok_mono (ih n (y + 1) (pm_ms M 88 y (M 89 y)) (by omega) (by omega) ?_ ?_) (fun M' h => ⟨h.1, h.2.1, fr_2 (fr_ms (by decide)) h.2.2⟩)
      · rw [msn, if_neg (by omega)]; exact h8
      · rw [msc, h9, h8]
        funext i
        rw [aSn]
        by_cases hi : i = y
        · rw [if_pos hi, if_pos (by omega), hi]
        · rw [if_neg hi]
          by_cases h2 : i < y
          · rw [if_pos h2, if_pos (by omega)]
          · rw [if_neg h2, if_neg (by omega)]
theorem q_copies1 (M : pm_M) : ok (f_Q_copies 1 M) (fun M' => M' 88 = M 88 ∧ M' 89 = (fun i => if i < 4012 then M 88 i else M 89 i) ∧ fr [89] M M') := by
  unfold f_Q_copies
  refine ok_bind (q_cpL1 M 4012 pm_F 0 M (by omega) (by unfold pm_F; omega) rfl ?_) (fun M' h => ok_some h)
  funext i; rw [if_neg (by omega)]
theorem q_copies0 (M : pm_M) : ok (f_Q_copies 0 M) (fun M' => M' 89 = M 89 ∧ M' 88 = (fun i => if i < 4012 then M 89 i else M 88 i) ∧ fr [88] M M') := by
  unfold f_Q_copies
  refine ok_bind (q_cpL0 M 4012 pm_F 0 M (by omega) (by unfold pm_F; omega) rfl ?_) (fun M' h => ok_some h)
  funext i; rw [if_neg (by omega)]
