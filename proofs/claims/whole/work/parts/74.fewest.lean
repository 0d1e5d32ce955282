/-! NIGHTS: the calls, both sides -/
def KpN (M M' : pm_M) : Prop := (∀ c ∈ KL, c ≠ 78 → c ≠ 79 → M' c = M c) ∧ M' 87 3 = M 87 3 ∧ M' 87 4 = M 87 4 ∧ M' 87 5 = M 87 5 ∧ (M' 77 7 = 0 ∨ NT M')
abbrev ENn (M : pm_M) (y z : Int × pm_M) : Prop := y.1 = z.1 ∧ St z.2 ∧ z.2 88 2 = M 88 2 ∧ KpN M z.2
section
variable {M : pm_M}
theorem EN_n {y z : Int × pm_M} (hT : M 77 7 = 0 ∨ NT M) (h : EN M y z) : ENn M y z := by
  obtain ⟨h1, h2, h3, h4⟩ := h
  refine ⟨h1, h2, h3, fun c hc _ _ => h4.1 c hc, h4.2.1, h4.2.2.1, h4.2.2.2.1, ?_⟩
  rcases hT with h | h
  · exact Or.inl (by rw [h4.2.2.2.2]; exact h)
  · exact Or.inr ⟨by rw [h4.1 78 (by decide)]; exact h.1, by rw [h4.1 79 (by decide)]; exact h.2⟩
theorem fin_ENn (hS : St M) {M1 M2 : pm_M} {u v : Int} (e : u = v) (f1 : fr [77, 78, 79, 80, 81, 82] M M1) (n1 : NT M1) (f2 : fr [87, 112, 113, 114] M1 M2) (j2 : ∀ j, j ≠ 44 → M2 87 j = M1 87 j) : ENn M (u, M1) (v, M2) := by
  have f12 : fr [77, 78, 79, 80, 81, 82, 87, 112, 113, 114] M M2 := fr_tr f1 f2 (by decide) (by decide)
  have m88 : M2 88 = M 88 := f12 88 (by decide)
  refine ⟨e, ⟨by show WF (M2 88); rw [m88]; exact hS.1, ?_⟩, by show M2 88 2 = _; rw [m88], fun c hc h8 h9 => f12 c ?_, ?_, ?_, ?_, Or.inr ⟨?_, ?_⟩⟩
  · show CX 24 36 1 (M2 88) M2
    rw [m88]; exact CX_fr f12 (by decide) hS.2
  · have : ∀ c ∈ KL, c ≠ 78 → c ≠ 79 → c ∉ [77, 78, 79, 80, 81, 82, 87, 112, 113, 114] := by decide
    exact this c hc h8 h9
  · show M2 87 3 = _; rw [j2 3 (by omega), f1 87 (by decide)]
  · show M2 87 4 = _; rw [j2 4 (by omega), f1 87 (by decide)]
  · show M2 87 5 = _; rw [j2 5 (by omega), f1 87 (by decide)]
  · show ∀ s p, s < 120 → p < 5 → M2 78 (5 * s + p) = _
    rw [f2 78 (by decide)]; exact n1.1
  · show ∀ s a b, s < 120 → b < 5 → a < b → M2 79 (10 * s + (b * (b - 1) / 2 + a)) = _
    rw [f2 79 (by decide)]; exact n1.2
theorem st_fewest (hS : St M) (hT : M 77 7 = 0 ∨ NT M) : ok (f_X_fewest M) (fun y => ok (f_Q_fewest y.2) (fun z => ENn M y z)) := by
  obtain ⟨hA, hC⟩ := id hS
  have w0 := hA.1
  obtain ⟨P, eP⟩ : ∃ P : Nat, M 88 0 = P := ⟨(M 88 0).toNat, by omega⟩
  unfold f_X_fewest
  by_cases hP : P ≤ 5
  · have := x_search (N := 8) hA eP hP (by omega) hC hT
    rw [show ((8 : Nat) : Int) = 8 from rfl] at this
    refine ok_bind this ?_
    rintro ⟨v, M1⟩ ⟨h1, h2, h3, h4, h5, h6⟩
    dsimp only at h1 h2 h3 h4 h5 h6 ⊢
    refine ok_some ?_
    show ok (f_Q_fewest M1) _
    have e88 : M1 88 = M 88 := h6 88 (by decide)
    unfold f_Q_fewest
    refine ok_pos (by rw [e88]; omega) (ok_bind (q_lays hA eP hP e88) ?_)
    rintro ⟨v2, M2⟩ ⟨k1, k2, k3, k4, k5⟩
    dsimp only at k1 k2 k3 k4 k5 ⊢
    exact ok_some (fin_ENn hS (by rw [h1, k1]) h6 h4 (fr_mo k5 (by decide)) k4)
  · have e : f_Nights_search 8 M = some (-1, M) := by
      unfold f_Nights_search f_Told_plinths
      rw [hC.1.1.1, ob, if_neg (by omega)]
    refine ok_be e (ok_some ?_)
    show ok (f_Q_fewest M) _
    unfold f_Q_fewest
    exact ok_neg (by omega) (ok_some (EN_n hT ⟨rfl, hS, rfl, Kp_rf _⟩))
theorem st_who (hS : St M) (hT : M 77 7 = 0 ∨ NT M) (x w : Int) : ok (f_X_who x w M) (fun y => ok (f_Q_who x w y.2) (fun z => ENn M y z)) := by
  obtain ⟨hA, hC⟩ := id hS
  have w0 := hA.1
  obtain ⟨P, eP⟩ : ∃ P : Nat, M 88 0 = P := ⟨(M 88 0).toNat, by omega⟩
  have r : ok (some ((-1 : Int), M)) (fun z => ENn M (-1, M) z) := ok_some (EN_n hT ⟨rfl, hS, rfl, Kp_rf _⟩)
  have no : ¬ ((0 ≤ x ∧ x ≤ 8) ∧ (0 ≤ w ∧ w < M 88 0) ∧ M 88 0 ≤ 5) → ok (f_Q_who x w M) (fun z => ENn M (-1, M) z) := by
    intro hn
    unfold f_Q_who
    refine ok_dc (f_Q_in_eq x 0 8 M) (fun h1 => ok_neg (by omega) ?_) (fun _ => ok_pos rfl r)
    refine ok_pl (q_isPl rfl hA.1 w) (fun h2 => ok_neg (by omega) ?_) (fun _ => ok_pos rfl r)
    exact ok_ite (fun h3 => absurd ⟨h1, h2, h3⟩ hn) (fun _ => r)
  unfold f_X_who
  refine ok_ite (fun h1 => ok_some (no (by omega))) (fun h1 => ?_)
  refine ok_ite (fun h2 => ok_some (no (by omega))) (fun h2 => ?_)
  refine ok_pl (x_isPl hC.1.1.1 w) (fun h3 => ok_neg (by omega) ?_) (fun h3 => ok_pos rfl (ok_some (no (fun z => h3 z.2.1))))
  by_cases hP : P ≤ 5
  · obtain ⟨N, eN⟩ : ∃ N : Nat, x = N := ⟨x.toNat, by omega⟩
    obtain ⟨p, ep⟩ : ∃ p : Nat, w = p := ⟨w.toNat, by omega⟩
    subst eN
    subst ep
    refine ok_bind (x_search (N := N) hA eP hP (by omega) hC hT) ?_
    rintro ⟨v, M1⟩ ⟨k1, k2, k3, k4, k5, k6⟩
    dsimp only at k1 k2 k3 k4 k5 k6 ⊢
    have e88 : M1 88 = M 88 := k6 88 (by decide)
    have hC1 : CX 24 36 1 (M 88) M1 := CX_fr k6 (by decide) hC
    have hvq := vN_eq (A := M 88) hP (N := N) (by omega)
    -- the reference's way in
    have pre : ∀ Q : Int × pm_M → Prop, ok ((f_Q_laysHistories M1).bind fun r1215 => if r1215.1 = (-1) then some ((-1), r1215.2) else ((f_Q_laysRest r1215.2).bind fun M1231 => (f_Q_who_L52 M1231 pm_F N p r1215.1 0 0).bind fun e1234 => some (e1234, M1231))) Q → ok (f_Q_who N p M1) Q := by
      intro Q hk
      unfold f_Q_who
      refine ok_dc (f_Q_in_eq N 0 8 M1) (fun _ => ok_neg (by omega) ?_) (fun z => absurd ⟨by omega, by omega⟩ z)
      refine ok_pl (q_isPl (congrFun e88 0) hA.1 _) (fun _ => ok_neg (by omega) ?_) (fun z => absurd h3 z)
      exact ok_pos (by rw [e88]; omega) hk
    have hl := q_lays hA eP hP e88
    refine ok_ite (fun hv => ok_some ?_) (fun hv => ?_)
    · refine pre _ (ok_bind hl ?_)
      rintro ⟨v2, M2⟩ ⟨g1, g2, g3, g4, g5⟩
      dsimp only at g1 g2 g3 g4 g5 ⊢
      have e2 : v2 = -1 := by rw [g1, ← hvq, ← k1]; exact hv
      exact ok_pos e2 (ok_some (fin_ENn hS rfl k6 k4 (fr_mo g5 (by decide)) g4))
    · have hlt : vN (M 88) P N < 1000 := by
        apply Classical.byContradiction
        intro hc
        rw [if_pos (by omega)] at k1
        exact hv k1
      have hvneg : vN (M 88) P N ≠ -1 := by
        have h0 : 0 ≤ vN (M 88) P N := (mns_b (c := fun s => aq (M 88) P N s + bq (M 88) P (8 - N) s) (fun s hs => by have := bd_aq (A := M 88) (P := P) hP N s hs; have := bd_bq (A := M 88) (P := P) hP (8 - N) s hs; omega) 120 (by omega)).1
        intro z
        rw [z] at h0
        exact absurd h0 (by decide)
      have hlt8 : vN (M 88) P 8 < 1000 := by
        apply Classical.byContradiction
        intro hc
        rw [if_neg (by omega), if_pos (by omega)] at hvq
        exact hvneg hvq
      have hve : vN (M 88) P 8 = vN (M 88) P N := by
        rw [if_neg (by omega), if_neg (by omega)] at hvq
        exact hvq.symm
      obtain ⟨b1, hb1, hb2, hb3⟩ := x_heads (P := P) hA hC1 k4 (N := N) (p := p) hP (by omega) k2 k3 k5 120 pm_F 0 0 (by omega) (by unfold pm_F; omega) (by omega) (fun i => by
        rw [Nat.zero_testBit]
        exact ⟨fun h => Bool.noConfusion h, fun ⟨s, hs, _⟩ => absurd hs (Nat.not_lt_zero s)⟩)
      rw [show ((0 : Nat) : Int) = 0 from rfl] at hb1
      have hx : f_Nights_headsAt p M1 = some (b1 : Int) := by
        unfold f_Nights_headsAt
        rw [hb1, ob]
      refine ok_be hx (ok_some ?_)
      refine pre _ (ok_bind hl ?_)
      rintro ⟨v2, M2⟩ ⟨g1, g2, g3, g4, g5⟩
      dsimp only at g1 g2 g3 g4 g5 ⊢
      have e2 : v2 = vN (M 88) P N := by rw [g1, if_neg (by omega), hve]
      have hvn : v2 ≠ -1 := by rw [e2]; exact hvneg
      refine ok_neg hvn (ok_bind (q_rest hA eP hP hlt8 (by rw [g5 88 (by decide)]; exact e88) g2) (fun M3 h3' => ?_))
      obtain ⟨b2, q1, q2, q3⟩ := q_heads (P := P) (M := M3) hA eP hP (fun q hq hr => by rw [h3'.2 114 (by decide)]; exact g3 q hq hr) (N := N) (p := p) (by omega) (by omega) hlt (rw1_eq (g2 N (by omega)) (fun w _ => by rw [h3'.2 112 (by decide)])) (h3'.1 N (by omega)) 7776 pm_F 0 0 (by omega) (by unfold pm_F; omega) (by omega) (fun i => by
        rw [Nat.zero_testBit]
        exact ⟨fun h => Bool.noConfusion h, fun ⟨s, _, hs, _⟩ => absurd hs (Nat.not_lt_zero _)⟩)
      rw [show ((0 : Nat) : Int) = 0 from rfl, ← e2] at q1
      refine ok_be q1 (ok_some (fin_ENn hS ?_ k6 k4 (fr_tr g5 h3'.2 (by decide) (by decide)) (fun j hj => by rw [h3'.2 87 (by decide)]; exact g4 j hj)))
      have eb : b1 = b2 := by
        apply Nat.eq_of_testBit_eq
        intro i
        have : b1.testBit i = true ↔ b2.testBit i = true := by
          rw [hb3 i, q3 i]
          constructor
          · rintro ⟨s, hs, h2, h3⟩
            refine ⟨s, ?_, h2, h3⟩
            apply Classical.byContradiction
            intro hn
            have := aq_out (A := M 88) hP N s hs hn
            have := bd_bq (A := M 88) (P := P) hP (8 - N) s hs
            omega
          · rintro ⟨s, hs, h2, h3⟩
            exact ⟨s, hs.1, h2, h3⟩
        cases h1 : b1.testBit i <;> cases h2 : b2.testBit i <;> simp_all
      rw [eb]
  · have e : f_Nights_search x M = some (-1, M) := by
      unfold f_Nights_search f_Told_plinths
      rw [hC.1.1.1, ob, if_neg (by omega)]
    exact ok_be e (ok_pos rfl (ok_some (no (by omega))))
end
