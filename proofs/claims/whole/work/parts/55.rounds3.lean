/-! ROUNDS: the call -/
section
variable {M M0 : pm_M} {A : Nat → Int}
noncomputable def bb (M0 : pm_M) (A : Nat → Int) (p : Nat) : Int := if a_row A p = -1 then 0 else am M0 2 A p (a_row A p)
theorem bb_b (hA : WF A) (hX : TXS M0 (A 2)) : ∀ p, p < (A 0).toNat → 0 ≤ bb M0 A p ∧ bb M0 A p ≤ 999 := by
  intro p hp
  have w0 := hA.1
  have hrp := (hA.2.2.2.2.2.2.2.2.2.1.1 p (by omega))
  unfold bb
  split
  · omega
  · have := am_b (L := 2) (p := p) (h := a_row A p) (M0 := M0) (r := a_row A) (by omega) hA hX (rW_rJ hA.2.2.2.2.2.2.2.2.2.1) (by omega) (Or.inr ⟨by omega, by omega, by omega⟩)
    rw [rU_self] at this
    exact this.1
theorem x_L48 (hA : WF A) (hX : TXS M0 (A 2)) (y1 y2 : Int) : ∀ (k n q : Nat) (M : pm_M), q + k = (A 0).toNat → k < n → CX 24 36 1 A M → KA M0 M → (∀ p, p < q → M 19 p = bb M0 A p) → ok (f_X_rounds_L48 n y1 y2 q M) (fun z => ∃ M', z = (y1, y2, M') ∧ (∀ p, p < (A 0).toNat → M' 19 p = bb M0 A p) ∧ fr [19, 65] M M') := by
  have w0 := hA.1
  intro k
  induction k with
  | zero =>
    intro n q M hq hn hC hK h19
    cases n with
    | zero => omega
    | succ n =>
      unfold f_X_rounds_L48 f_Told_plinths
      exact ok_be (congrArg some hC.1.1.1) (ok_pos (by omega) (ok_some ⟨M, rfl, fun p hp => h19 p (by omega), fr_rf _ _⟩))
  | succ k ih =>
    intro n q M hq hn hC hK h19
    cases n with
    | zero => omega
    | succ n =>
      have hrp := (hA.2.2.2.2.2.2.2.2.2.1.1 q (by omega))
      have go : ∀ (M1 : pm_M) (v : Int), fr [65] M M1 → v = bb M0 A q → ok ((f_Keeper_expect q v M1).bind fun M592 => f_X_rounds_L48 n y1 y2 (i_ad (q : Int) 1) M592) (fun z => ∃ M', z = (y1, y2, M') ∧ (∀ p, p < (A 0).toNat → M' 19 p = bb M0 A p) ∧ fr [19, 65] M M') := by
        intro M1 v hf hv
        unfold f_Keeper_expect
        rw [tn_nat, i_ad_eq (by omega)]
        refine ok_bind (ok_pos (by omega) (ok_bd (ok_some rfl))) ?_
        rintro _ rfl
        have hf2 : fr [19, 65] M (pm_ms M1 19 q v) := fr_tr hf (S2 := [19]) (fr_ms (by decide)) (by decide) (by decide)
        refine ok_mono (ih n (q + 1) _ (by omega) (by omega) (CX_fr hf2 (by decide) hC) (KA_fr hf2 (by decide) hK) (fun p hp => ?_)) ?_
        · rw [msc, aSn]
          by_cases e : p = q
          · rw [if_pos e, e, hv]
          · rw [if_neg e, hf 19 (by decide)]; exact h19 p (by omega)
        · rintro z ⟨M', z1, z2, z3⟩
          exact ⟨M', z1, z2, fr_2 hf2 z3⟩
      unfold f_X_rounds_L48 f_Told_plinths
      refine ok_be (congrArg some hC.1.1.1) (ok_neg (by omega) (ok_be (x_headAt hC.2.1 (by omega)) ?_))
      rw [tn_nat]
      refine ok_ite (fun e => go M 0 (fr_rf _ _) ?_) (fun e => ?_)
      · unfold bb; rw [if_pos e]
      · refine ok_bind (x_am (L := 2) (p := q) (h := a_row A q) (r := a_row A) (by omega) hA hX (rW_rJ hA.2.2.2.2.2.2.2.2.2.1) (by rw [rU_self]; exact hC) hK (by omega) (Or.inr ⟨by omega, by omega, by omega⟩)) (fun y hy => go y.2 y.1 hy.2 ?_)
        rw [hy.1, rU_self]
        unfold bb; rw [if_neg e]
theorem q_L60 (hA : WF A) (hX : TXS M0 (A 2)) (y1 y2 y3 : Int) : ∀ (k n q : Nat) (M : pm_M), q + k = (A 0).toNat → k < n → M 88 = A → KA M0 M → (∀ p, p < q → M 118 p = bb M0 A p) → ok (f_Q_rounds_L60 n y1 y2 y3 q M) (fun z => ∃ M', z = (y1, y2, y3, M') ∧ (∀ p, p < (A 0).toNat → M' 118 p = bb M0 A p) ∧ fr [108, 109, 118] M M') := by
  have w0 := hA.1
  intro k
  induction k with
  | zero =>
    intro n q M hq hn hM hK h19
    cases n with
    | zero => omega
    | succ n =>
      unfold f_Q_rounds_L60
      exact ok_pos (by rw [hM]; omega) (ok_some ⟨M, rfl, fun p hp => h19 p (by omega), fr_rf _ _⟩)
  | succ k ih =>
    intro n q M hq hn hM hK h19
    cases n with
    | zero => omega
    | succ n =>
      have hrp := (hA.2.2.2.2.2.2.2.2.2.1.1 q (by omega))
      have e70 : A (70 + q) = a_row A q := rfl
      have go : ∀ (M1 : pm_M) (v : Int), fr [108, 109] M M1 → v = bb M0 A q → ok (f_Q_rounds_L60 n y1 y2 y3 ((q : Int) + 1) (pm_ms M1 118 q v)) (fun z => ∃ M', z = (y1, y2, y3, M') ∧ (∀ p, p < (A 0).toNat → M' 118 p = bb M0 A p) ∧ fr [108, 109, 118] M M') := by
        intro M1 v hf hv
        have hf2 : fr [108, 109, 118] M (pm_ms M1 118 q v) := fr_tr hf (S2 := [118]) (fr_ms (by decide)) (by decide) (by decide)
        refine ok_mono (ih n (q + 1) _ (by omega) (by omega) (by rw [hf2 88 (by decide)]; exact hM) (KA_fr hf2 (by decide) hK) (fun p hp => ?_)) ?_
        · rw [msc, aSn]
          by_cases e : p = q
          · rw [if_pos e, e, hv]
          · rw [if_neg e, hf 118 (by decide)]; exact h19 p (by omega)
        · rintro z ⟨M', z1, z2, z3⟩
          exact ⟨M', z1, z2, fr_2 hf2 z3⟩
      unfold f_Q_rounds_L60
      rw [i_ad_eq (a := 70) (by omega), show ((70 : Int) + (q : Int)).toNat = 70 + q by omega, hM, e70, tn_nat, i_ad_eq (a := (q : Int)) (by omega)]
      refine ok_neg (by omega) (ok_pos (by omega) (ok_ite (fun e => ok_pos (by omega) (ok_bd (go M 0 (fr_rf _ _) ?_))) (fun e => ok_pos (by omega) ?_)))
      · unfold bb; rw [if_pos e]
      · refine ok_bind (q_am (L := 2) (p := q) (h := a_row A q) (r := a_row A) (by omega) hA hX (rW_rJ hA.2.2.2.2.2.2.2.2.2.1) (by rw [rU_self]; exact hM) hK (by omega) (Or.inr ⟨by omega, by omega, by omega⟩)) (fun y hy => ok_pos (by omega) (ok_bd (go y.2 y.1 hy.2 ?_)))
        rw [hy.1, rU_self]
        unfold bb; rw [if_neg e]
theorem st_rounds (hS : St M) (hX : TXS M (M 88 2)) (x w : Int) : ok (f_X_rounds x w M) (fun y => ok (f_Q_rounds x w y.2) (fun z => EN M y z)) := by
  obtain ⟨hA, hC⟩ := id hS
  have w0 := hA.1
  have no : ¬ ((1 ≤ x ∧ x ≤ 5) ∧ (-1 ≤ w ∧ w < x) ∧ M 88 0 ≠ 0) → ok (f_Q_rounds x w M) (fun z => EN M (-1, M) z) := by
    intro hn
    have r : ok (some ((-1 : Int), M)) (fun z => EN M (-1, M) z) := ok_some ⟨rfl, hS, rfl, Kp_rf M⟩
    unfold f_Q_rounds
    refine ok_dc (f_Q_in_eq x 1 5 M) (fun h1 => ok_neg (by omega) ?_) (fun _ => ok_pos rfl r)
    rw [i_sb_eq (by omega)]
    refine ok_dc (f_Q_in_eq w (-1) (x - 1) M) (fun h2 => ok_neg (by omega) ?_) (fun _ => ok_pos rfl r)
    exact ok_ite (fun _ => r) (fun h3 => absurd ⟨h1, ⟨by omega, by omega⟩, h3⟩ hn)
  unfold f_X_rounds f_Told_plinths f_Keeper_start
  refine ok_ite (fun h1 => ok_some (no (by omega))) (fun h1 => ?_)
  refine ok_ite (fun h2 => ok_some (no (by omega))) (fun h2 => ?_)
  refine ok_ite (fun h3 => ok_some (no (by omega))) (fun h3 => ?_)
  refine ok_ite (fun h4 => ok_some (no (by omega))) (fun h4 => ?_)
  refine ok_be (congrArg some hC.1.1.1) ?_
  refine ok_ite (fun h5 => ok_some (no (by omega))) (fun h5 => ?_)
  refine ok_be (congrArg some hC.1.1.1) (ok_be rfl ?_)
  obtain ⟨N, eN⟩ : ∃ N : Nat, x = N := ⟨x.toNat, by omega⟩
  obtain ⟨P, eP⟩ : ∃ P : Nat, M 88 0 = P := ⟨(M 88 0).toNat, by omega⟩
  have hbb := bb_b (M0 := M) hA hX
  rw [eP, tn_nat] at hbb
  subst eN
  have f1 : fr [18] M (pm_ms M 18 5 (M 88 0)) := fr_ms (by decide)
  refine ok_bind (x_L48 (M0 := M) hA hX N w (M 88 0).toNat pm_F 0 _ (by omega) (by unfold pm_F; omega) (CX_fr f1 (by decide) hC) (KA_fr f1 (by decide) (KA_rf M)) (fun p hp => by omega)) ?_
  rintro _ ⟨M1, rfl, h19, f2⟩
  dsimp only
  rw [eP, tn_nat] at h19
  have m5 : M1 18 5 = P := by rw [f2 18 (by decide), msc, aSn, if_pos rfl]; exact eP
  refine ok_bind (x_plan (P := P) (N := N) (b := bb M (M 88)) (by omega) (by omega) hbb m5 h19) (fun M2 h => ?_)
  obtain ⟨⟨f, p1, p2, p3, p4, p5⟩, q5, q6, q7, f3⟩ := h
  have fX : fr [18, 19, 20, 21, 22, 23, 65] M M2 := fr_tr (fr_tr f1 f2 (S := [18, 19, 65]) (by decide) (by decide)) f3 (by decide) (by decide)
  have hpos := pw_pos (P := P) (by omega) N
  have hle : P ^ N ≤ 8 ^ 5 := Nat.le_trans (pw_le (by omega) N (by omega)) (Nat.pow_le_pow_right (by omega) (by omega))
  have hv0 : 0 ≤ vv (bb M (M 88)) P N f := spa_b hbb (by omega) N 0 cl0 f p1 (fun p hp => by unfold cl0; omega) (by omega)
  have key : ∀ v : Int, (w = -1 → v = tot (bb M (M 88)) P N - vv (bb M (M 88)) P N f) → (w ≠ -1 → v = ((f / P ^ (N - 1 - w.toNat) % P : Nat) : Int)) → ok (f_Q_rounds N w M2) (fun z => EN M (v, M2) z) := by
    intro v hv1 hv2
    have e88 : M2 88 = M 88 := fX 88 (by decide)
    unfold f_Q_rounds
    refine ok_dc (f_Q_in_eq N 1 5 M2) (fun _ => ok_neg (by omega) ?_) (fun z => absurd ⟨by omega, by omega⟩ z)
    rw [i_sb_eq (by omega)]
    refine ok_dc (f_Q_in_eq w (-1) (N - 1) M2) (fun _ => ok_neg (by omega) ?_) (fun z => absurd ⟨by omega, by omega⟩ z)
    rw [e88]
    refine ok_neg h5 ?_
    have e1 := q_L36 (M := M2) (P := P) (N := N) (by omega) (by omega) (by rw [e88]; exact eP) w N pm_F 0 (by omega) (by unfold pm_F; omega)
    rw [Nat.pow_zero, show ((1 : Nat) : Int) = 1 from rfl, show ((0 : Nat) : Int) = 0 from rfl] at e1
    refine ok_be e1 ?_
    dsimp only
    refine ok_bind (q_L60 (M0 := M) hA hX N w ((P ^ N : Nat) : Int) (M 88 0).toNat pm_F 0 M2 (by omega) (by unfold pm_F; omega) e88 (KA_fr fX (by decide) (KA_rf M)) (fun p hp => by omega)) ?_
    rintro _ ⟨M3, rfl, h118, f4⟩
    dsimp only
    rw [eP, tn_nat] at h118
    have e883 : M3 88 0 = P := by rw [f4 88 (by decide), e88]; exact eP
    refine ok_bind (q_L130 (P := P) (N := N) (b := bb M (M 88)) (by omega) (by omega) hbb w (P ^ N) pm_F 0 0 100000 M3 (by omega) (by unfold pm_F; omega) e883 h118 (Or.inl ⟨rfl, rfl, fun j hj => by omega⟩)) ?_
    rintro _ ⟨y4, y5, M4, rfl, hR, f5⟩
    dsimp only
    have fQ : fr [18, 19, 20, 21, 22, 23, 65, 108, 109, 117, 118] M M4 := fr_tr (fr_tr fX f4 (S := [18, 19, 20, 21, 22, 23, 65, 108, 109, 117, 118]) (by decide) (by decide)) f5 (by decide) (by decide)
    have hR' : y4 = (f : Int) ∧ y5 = tot (bb M (M 88)) P N - vv (bb M (M 88)) P N f := by
      rcases hR with ⟨_, _, r3⟩ | ⟨g, r1, r2, r3, r4, r5, r6⟩
      · obtain ⟨j, j1, j2⟩ := tot_lt (P := P) (N := N) (b := bb M (M 88)) (by omega) (by omega) hbb
        have := r3 j j1
        omega
      · have a1 := r6 f p1
        have a2 := p4 g r1
        have eq : g = f := by
          by_cases c1 : g < f
          · have := p3 g c1; omega
          · by_cases c2 : f < g
            · have := r5 f c2; omega
            · omega
        rw [eq] at r2 r3
        exact ⟨r2, r3⟩
    refine ok_ite (fun hw => ok_some ?_) (fun hw => ?_)
    · refine fr_EN hS ?_ fQ (by decide) (by decide) (by decide)
      show v = y5
      rw [hv1 hw, hR'.2]
    · rw [i_sb_eq (by omega), hR'.1]
      obtain ⟨d, ed⟩ : ∃ d : Nat, w = d := ⟨w.toNat, by omega⟩
      have e4 : M4 88 0 = P := by rw [f5 88 (by decide)]; exact e883
      have := q_L179 (M := M4) (P := P) (by omega) e4 d (N - 1 - d) pm_F f ((N : Int) - 1) (by omega) (by omega) (by omega) (by unfold pm_F; omega) (by omega)
      rw [ed]
      refine ok_be this (ok_neg (by omega) (ok_some ?_))
      refine fr_EN hS ?_ fQ (by decide) (by decide) (by decide)
      show v = i_rm ((f / P ^ (N - 1 - d) : Nat) : Int) (M4 88 0)
      have hdiv : f / P ^ (N - 1 - d) ≤ f := Nat.div_le_self _ _
      have hv := hv2 hw
      rw [ed, tn_nat] at hv
      rw [hv, e4]
      generalize f / P ^ (N - 1 - d) = g at hdiv ⊢
      rw [i_rm_eq (by omega) (by omega)]
      omega
  refine ok_ite (fun hw => ?_) (fun hw => ?_)
  · rw [x_least (P := P) (N := N) (b := bb M (M 88)) (by omega) (by omega) hbb q5 q6 (fun p hp => by rw [f3 19 (by decide)]; exact h19 p hp) (by rw [p2]; rw [p2] at q7; omega), p2]
    exact ok_be rfl (ok_some (key _ (fun _ => rfl) (fun z => absurd hw z)))
  · unfold f_Keeper_cleanedOn
    rw [if_pos (by omega), p5 w.toNat (by omega)]
    exact ok_be rfl (ok_some (key _ (fun z => absurd z hw) (fun _ => rfl)))
end
