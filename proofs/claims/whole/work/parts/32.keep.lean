/-! STEPS: kept and taken back -/
theorem tn_nat (a : Nat) : ((a : Int)).toNat = a := Int.toNat_natCast a
theorem fr_2 {S : List Nat} {M M1 M2 : pm_M} (h1 : fr S M M1) (h2 : fr S M1 M2) : fr S M M2 := fr_tr h1 h2 (fun _ h => h) (fun _ h => h)
theorem x_keep {A : Nat → Int} {M : pm_M} (hA : WF A) (h : CX 24 36 1 A M) : ok (f_Steps_keep M) (fun M' => CX 24 36 1 (kS A) M' ∧ fr [1, 2] M M') := by
  obtain ⟨hT, hR, ⟨hn, hc, hs⟩⟩ := h
  have w4 := hA.2.2.2.2.1
  obtain ⟨n, en⟩ : ∃ n : Nat, M 1 1 = n := ⟨(M 1 1).toNat, by omega⟩
  obtain ⟨c, ec⟩ : ∃ c : Nat, A 4 = c := ⟨(A 4).toNat, by omega⟩
  have k4 := kS_4 A
  unfold f_Steps_keep f_Moment_copyTo
  rw [en] at hn hs ⊢
  rw [ec] at hc hs k4 w4
  simp only [tn_nat] at hs
  rw [i_ml_eq (by omega)]
  refine ok_bind (Q1 := fun M' => M' = pm_cp M 36 2 0 (n * 186) 186) ?_ ?_
  · refine ok_pos (by omega) (ok_bd (ok_some ?_))
    rw [show ((n : Int) * 186).toNat = n * 186 by omega]
  rintro _ rfl
  refine ok_bd ?_
  have e1 : (pm_cp M 36 2 0 (n * 186) 186) 1 = M 1 := by rw [cpn, if_neg (by omega)]
  rw [e1, en, i_ad_eq (by omega), i_rm_eq (by omega) (by omega)]
  obtain ⟨n', en'⟩ : ∃ n' : Nat, ((n : Int) + 1) % 20 = n' := ⟨(n + 1) % 20, by omega⟩
  rw [en']
  have key : ∀ M' : pm_M, M' 1 1 = n' → M' 1 2 = kS A 4 → M' 2 = (pm_cp M 36 2 0 (n * 186) 186) 2 → fr [1, 2] M M' → CX 24 36 1 (kS A) M' ∧ fr [1, 2] M M' := by
    intro M' h1 h2 h3 h4
    refine ⟨⟨?_, ?_, ?_⟩, h4⟩
    · have hT' := rT_congr (M' := M') (fun k hk => h4 (24 + k) (by simp; omega)) hT
      obtain ⟨⟨t1, t2, t3, t4, t5⟩, t6, t7, t8, t9⟩ := hT'
      have e : ∀ k, k ≠ 4 → k < 292 → kS A k = A k := fun k h1 h2 => kS_lo h1 h2
      refine ⟨⟨by rw [e 0 (by omega) (by omega)]; exact t1, by rw [e 1 (by omega) (by omega)]; exact t2, by rw [e 5 (by omega) (by omega)]; exact t3, by rw [e 2 (by omega) (by omega)]; exact t4, by rw [e 3 (by omega) (by omega)]; exact t5⟩, fun p hp => ?_, fun p hp => ?_, fun p hp => ?_, fun p hp => ?_⟩
      · rw [e (10 + 4 * p) (by omega) (by omega), e (11 + 4 * p) (by omega) (by omega), e (12 + 4 * p) (by omega) (by omega), e (13 + 4 * p) (by omega) (by omega)]; exact t6 p hp
      · rw [e 0 (by omega) (by omega)] at hp ⊢
        rw [t7 p hp]
        have w0 := hA.1
        have : ∀ m, m ≤ (A 0).toNat → a_cl A p m = a_cl (kS A) p m := by
          intro m
          induction m with
          | zero => intro _; rfl
          | succ m ih =>
            intro hm
            unfold a_cl a_mi
            rw [ih (by omega), e (10 + 4 * p) (by omega) (by omega), e (11 + 4 * p) (by omega) (by omega), e (10 + 4 * m) (by omega) (by omega), e (11 + 4 * m) (by omega) (by omega)]
        exact this _ (Nat.le_refl _)
      · rw [e (42 + 2 * p) (by omega) (by omega), e (43 + 2 * p) (by omega) (by omega)]; exact t8 p hp
      · rw [e (256 + 3 * p) (by omega) (by omega), e (257 + 3 * p) (by omega) (by omega), e (258 + 3 * p) (by omega) (by omega)]; exact t9 p hp
    · intro i hi
      rw [kS_lo (by omega) (by omega), h4 36 (by decide)]; exact hR i hi
    · refine ⟨⟨by omega, by omega⟩, h2, ?_⟩
      intro j hj i hi
      have hle : 0 ≤ kS A 4 ∧ kS A 4 ≤ 20 := by rw [k4]; split <;> omega
      rw [h3, h1, tn_nat, cpn, if_pos rfl]
      by_cases hl : j + 1 = (kS A 4).toNat
      · have hx : (n' + 20 - (kS A 4).toNat + j) % 20 = n := by omega
        have hy := kS_last (A := A) (by omega) hi
        rw [show (kS A 4).toNat - 1 = j by omega] at hy
        simp only [hx]
        rw [if_pos (by omega), hy, show 0 + (186 * n + i - n * 186) = i by omega]
        exact hR i hi
      · rw [kS_old (A := A) (by omega) hi (by omega)]
        have hq : ((if A 4 = 20 then j + 1 else j : Nat) : Int) < c := by
          rw [k4] at hj hl
          rw [ec]
          by_cases h20 : (c : Int) = 20
          · rw [if_pos h20] at hj hl ⊢; omega
          · rw [if_neg h20] at hj hl ⊢; omega
        have hb : (n' + 20 - (kS A 4).toNat + j) % 20 = (n + 20 - c + (if A 4 = 20 then j + 1 else j)) % 20 := by
          rw [k4] at hj hl ⊢
          rw [ec] at hq ⊢
          by_cases h20 : (c : Int) = 20
          · rw [if_pos h20] at hj hl hq ⊢
            rw [if_pos h20]; rw [show Int.toNat 20 = 20 from rfl] at *; omega
          · rw [if_neg h20] at hj hl hq ⊢
            rw [if_neg h20]; omega
        have hne : (n + 20 - c + (if A 4 = 20 then j + 1 else j)) % 20 ≠ n := by omega
        have := hs _ hq i hi
        rw [← this, hb]
        generalize (n + 20 - c + (if A 4 = 20 then j + 1 else j)) % 20 = b at *
        rw [if_neg (by omega)]
  have c2 : ∀ x, (pm_ms (pm_cp M 36 2 0 (n * 186) 186) 1 1 x) 1 2 = c := by
    intro x; rw [msn, if_pos rfl, aSn, if_neg (by omega), e1]; exact hc
  have fr0 : ∀ x, fr [1, 2] M (pm_ms (pm_cp M 36 2 0 (n * 186) 186) 1 1 x) := fun x => fr_2 (fr_cp (by decide)) (fr_ms (by decide))
  rw [c2]
  refine ok_ite (fun h20 => ok_some ?_) (fun h20 => ok_bd (ok_some ?_))
  · refine key _ ?_ ?_ ?_ (fr0 _)
    · rw [msn, if_pos rfl, aSn, if_pos rfl]
    · rw [c2, k4, if_pos (by omega)]; omega
    · rw [msn, if_neg (by omega)]
  · refine key _ ?_ ?_ ?_ (fr_2 (fr0 _) (fr_ms (by decide)))
    · rw [msn, if_pos rfl, aSn, if_neg (by omega), msn, if_pos rfl, aSn, if_pos rfl]
    · rw [msn, if_pos rfl, aSn, if_pos rfl, i_ad_eq (by omega), k4, if_neg (by omega)]
    · rw [msn, if_neg (by omega), msn, if_neg (by omega)]
-- the reference
def B15 (A : Nat → Int) (y : Nat) : Nat → Int := fun k => if 292 ≤ k ∧ k < y then A (k + 186) else A k
theorem q_L15 (A : Nat → Int) : ∀ (k n y : Nat) (M : pm_M), y + k = 3826 → 292 ≤ y → k < n → M 88 = B15 A y → ok (f_Q_keepsStep_L15 n y M) (fun M' => M' 88 = B15 A 3826 ∧ fr [88] M M') := by
  intro k
  induction k with
  | zero =>
    intro n y M hy h292 hn hM
    cases n with
    | zero => omega
    | succ n =>
      unfold f_Q_keepsStep_L15
      refine ok_pos (by omega) (ok_some ⟨?_, fr_rf _ _⟩)
      rw [hM, show y = 3826 by omega]
  | succ k ih =>
    intro n y M hy h292 hn hM
    cases n with
    | zero => omega
    | succ n =>
      unfold f_Q_keepsStep_L15
      rw [i_ad_eq (by omega), i_ad_eq (by omega)]
      refine ok_neg (by omega) (ok_pos (by omega) (ok_pos (by omega) (ok_bd ?_)))
      rw [show ((y : Int) + 186).toNat = y + 186 by omega, tn_nat]
      refine ok_mono (ih n (y + 1) _ (by omega) (by omega) (by omega) ?_) (fun M' hM' => ⟨hM'.1, fr_2 (fr_ms (by decide)) hM'.2⟩)
      rw [msc, hM]
      funext i
      unfold aS B15
      by_cases hi : i = y
      · rw [if_pos hi, if_neg (by omega), if_pos (by omega), hi]
      · rw [if_neg hi]
        by_cases h2 : 292 ≤ i ∧ i < y
        · rw [if_pos h2, if_pos (by omega)]
        · rw [if_neg h2, if_neg (by omega)]
def B54 (A : Nat → Int) (c y : Nat) : Nat → Int := fun k => if 292 + 186 * c ≤ k ∧ k < 292 + 186 * c + y then A (70 + (k - (292 + 186 * c))) else A k
theorem q_L54 (A : Nat → Int) (c : Nat) (hc : A 4 = c) (hc2 : c < 20) : ∀ (k n y : Nat) (M : pm_M), y + k = 186 → k < n → M 88 = B54 A c y → ok (f_Q_keepsStep_L54 n y M) (fun M' => M' 88 = B54 A c 186 ∧ fr [88] M M') := by
  intro k
  induction k with
  | zero =>
    intro n y M hy hn hM
    cases n with
    | zero => omega
    | succ n =>
      unfold f_Q_keepsStep_L54
      refine ok_pos (by omega) (ok_some ⟨?_, fr_rf _ _⟩)
      rw [hM, show y = 186 by omega]
  | succ k ih =>
    intro n y M hy hn hM
    cases n with
    | zero => omega
    | succ n =>
      unfold f_Q_keepsStep_L54
      have h4 : M 88 4 = c := by rw [hM]; unfold B54; rw [if_neg (by omega)]; exact hc
      rw [h4]
      simp (disch := omega) only [i_ml_eq, i_ad_eq]
      refine ok_neg (by omega) (ok_pos (by omega) (ok_pos (by omega) (ok_bd ?_)))
      rw [show ((292 : Int) + 186 * (c : Int) + (y : Int)).toNat = 292 + 186 * c + y by omega, show ((70 : Int) + (y : Int)).toNat = 70 + y by omega]
      refine ok_mono (ih n (y + 1) _ (by omega) (by omega) ?_) (fun M' hM' => ⟨hM'.1, fr_2 (fr_ms (by decide)) hM'.2⟩)
      rw [msc, hM]
      funext i
      unfold aS B54
      by_cases hi : i = 292 + 186 * c + y
      · rw [if_pos hi, if_neg (by omega), if_pos (by omega)]
        exact congrArg A (by omega)
      · rw [if_neg hi]
        by_cases h2 : 292 + 186 * c ≤ i ∧ i < 292 + 186 * c + y
        · rw [if_pos h2, if_pos (by omega)]
        · rw [if_neg h2, if_neg (by omega)]
theorem q_keep {A : Nat → Int} {M : pm_M} (hA : 0 ≤ A 4 ∧ A 4 ≤ 20) (hM : M 88 = A) : ok (f_Q_keepsStep M) (fun M' => M' 88 = kS A ∧ fr [88] M M') := by
  unfold f_Q_keepsStep
  rw [hM]
  refine ok_ite (fun h20 => ?_) (fun h20 => ?_)
  · refine ok_bind (q_L15 A 3534 pm_F 292 M (by omega) (by omega) (by unfold pm_F; omega) ?_) ?_
    · rw [hM]; funext i; unfold B15; rw [if_neg (by omega)]
    intro M1 h1
    refine ok_bd ?_
    refine ok_bind (q_L54 (aS (B15 A 3826) 4 19) 19 rfl (by omega) 186 pm_F 0 _ (by omega) (by unfold pm_F; omega) ?_) ?_
    · rw [msc, h1.1]; funext i; unfold B54; rw [if_neg (by omega)]
    intro M2 h2
    refine ok_bd (ok_some ⟨?_, fr_2 (fr_2 h1.2 (fr_ms (by decide))) (fr_2 h2.2 (fr_ms (by decide)))⟩)
    rw [msc, h2.1]
    funext i
    unfold aS B54 kS B15
    dsimp only
    by_cases hi : i = 4
    · subst hi; simp [h20, i_ad_eq]
    · simp only [if_neg hi, if_pos h20]
      by_cases h3 : 3826 ≤ i ∧ i < 4012
      · rw [if_pos (by omega), if_neg (by omega), if_neg (by omega), if_pos h3]
      · rw [if_neg (by omega), if_neg h3]
  · obtain ⟨c, ec⟩ : ∃ c : Nat, A 4 = c := ⟨(A 4).toNat, by omega⟩
    refine ok_bind (q_L54 A c ec (by omega) 186 pm_F 0 M (by omega) (by unfold pm_F; omega) ?_) ?_
    · rw [hM]; funext i; unfold B54; rw [if_neg (by omega)]
    intro M2 h2
    refine ok_bd (ok_some ⟨?_, fr_2 h2.2 (fr_ms (by decide))⟩)
    rw [msc, h2.1]
    have e4 : B54 A c 186 4 = c := by unfold B54; rw [if_neg (by omega)]; exact ec
    rw [e4, i_ad_eq (by omega)]
    funext i
    unfold aS kS
    by_cases hi : i = 4
    · rw [if_pos hi, if_pos hi, if_neg h20, ec]
    · rw [if_neg hi, if_neg hi, if_neg h20, ec, tn_nat]; rfl
