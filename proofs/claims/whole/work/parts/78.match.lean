/-! BEST: a row is brought in -/
theorem aN_e (f : Nat → Nat) (k v : Nat) : aN f k v k = v := by unfold aN; rw [if_pos rfl]
theorem aN_n {f : Nat → Nat} {k v i : Nat} (h : i ≠ k) : aN f k v i = f i := by unfold aN; rw [if_neg h]
section
variable {n row pp : Nat} {C : Nat → Nat → Int} {R : Nat → Nat} {u0 v0 : Nat → Int}
theorem smv_u {M : pm_M} {f : Nat} (hf : f ≤ n) (h0 : M 75 f = 0) (hb : ∀ k, k ≤ n → M 75 k = 0 ∨ M 75 k = 1) : smv (n + 1) (M 75) ≤ n := by
  have e := smv_set (M 75) f 1 (n + 1)
  rw [if_pos (by omega), h0] at e
  have hle := (smv_b (f := fun p => if p = f then 1 else M 75 p) (B := 1) (n + 1) (fun p hp => by
    have := hb p (by omega)
    split <;> omega)).2
  omega
theorem mark_s {M : pm_M} {j : Nat} (hj : j ≤ n) (h0 : M 75 j = 0) : smv (n + 1) ((pm_ms M 75 j 1) 75) = smv (n + 1) (M 75) + 1 := by
  have e := smv_set (M 75) j 1 (n + 1)
  rw [if_pos (by omega), h0] at e
  have : smv (n + 1) ((pm_ms M 75 j 1) 75) = smv (n + 1) (fun p => if p = j then 1 else M 75 p) := smv_congr _ (fun p _ => by rw [msc, aSn])
  omega
theorem x_L43 (hn : n ≤ 20) (hR : RF n row R) (hCB : CB n pp C) (hpp : row ≤ pp ∧ pp ≤ 8) (hU : U0 n row C R u0 v0) : ∀ (t nn i j : Nat) (M : pm_M), i + t = n + 1 → 1 ≤ i → t < nn → PH n pp row C R u0 v0 i j M → ok (f_Placing_match_L43 nn j i M) (fun z => ∃ j' i' : Nat, z.1 = j' ∧ PH n pp row C R u0 v0 i' j' z.2 ∧ R j' = 0 ∧ i' ≤ n ∧ fr [70, 71, 72, 74, 75] M z.2) := by
  intro t
  induction t with
  | zero =>
    intro nn i j M hi h1 hnn hP
    exfalso
    obtain ⟨R0, r1, r8, Rlt, Rinj, f, f1, fn, Rf⟩ := hR
    obtain ⟨p1, p2, p3, p4, p5, p6, _⟩ := hP
    have hf0 : M 75 f = 0 := by rcases p2 f fn with h | h; exact h; exact absurd Rf (p6 f f1 fn h)
    have := smv_u fn hf0 p2
    omega
  | succ t ih =>
    intro nn i j M hi h1 hnn hP
    cases nn with
    | zero => omega
    | succ nn =>
      obtain ⟨R0, r1, r8, Rlt, Rinj, f, f1, fn, Rf⟩ := id hR
      obtain ⟨p1, p2, p3, p4, p5, p6, p7, p8, p9, p10, p11, p12, p13, p14, p15⟩ := id hP
      obtain ⟨j1, j2, j3, j4⟩ := p5
      unfold f_Placing_match_L43
      rw [p1.1, tn_nat, p1.2.2 j j2]
      refine ok_neg (by omega) (ok_pos (by omega) (ok_ite (fun e => ok_some ⟨j, i, rfl, hP, by omega, by omega, fr_rf _ _⟩) (fun e => ok_pos (by omega) (ok_bd ?_))))
      have f1' : fr [75] M (pm_ms M 75 j 1) := fr_ms (by decide)
      generalize hM1 : pm_ms M 75 j 1 = M1 at f1'
      have e75 : ∀ k, M1 75 k = if k = j then 1 else M 75 k := fun k => by rw [← hM1, msc, aSn]
      have eu : ∀ r, uX M1 r = uX M r := fun r => by unfold uX; rw [f1' 70 (by decide)]
      have ev : ∀ k, vX M1 k = vX M k := fun k => by unfold vX; rw [f1' 71 (by decide)]
      have el : ∀ r k, lft C M1 r k = lft C M r k := fun r k => by unfold lft; rw [eu, ev]
      have e72 : M1 72 = M 72 := f1' 72 (by decide)
      have e74 : M1 74 = M 74 := f1' 74 (by decide)
      have Rj : R j ≠ 0 := by omega
      have un : ∀ k, M1 75 k = 0 → k ≠ j ∧ M 75 k = 0 := fun k h => by
        rw [e75] at h
        by_cases e : k = j
        · rw [if_pos e] at h; omega
        · rw [if_neg e] at h; exact ⟨e, h⟩
      have us : ∀ k, M1 75 k = 1 → k = j ∨ M 75 k = 1 := fun k h => by
        rw [e75] at h
        by_cases e : k = j
        · exact Or.inl e
        · rw [if_neg e] at h; exact Or.inr h
      have us' : ∀ k, M 75 k = 1 → M1 75 k = 1 := fun k h => by
        rw [e75]
        by_cases e : k = j
        · rw [if_pos e]
        · rw [if_neg e]; exact h
      have nw0 : ∀ k, 1 ≤ k → k ≤ n → M1 75 k = 0 → 0 ≤ nwF C M1 (R j) k := fun k x y z => by
        have hk := un k z
        have := (p7 k x y hk.2).1
        have h2 := p9 (R j) k (by omega) (by have := Rlt j j1 j2; omega) x y
        unfold nwF
        rw [el, e72]
        split <;> omega
      have ht := x_turn hn hR hCB hpp hU (i := i) (j0 := j) (M1 := M1) (E0 := uX M row + cK) ⟨j2, by rw [e75, if_pos rfl]⟩ (hT_fr p1 f1' (by decide)) (fun k x => by rw [e75]; have := p2 k x; split <;> omega) (by rw [← hM1, mark_s j2 j3, p3]; omega) (us' 0 p4) (fun k x y z => by
          rcases us k z with h | h
          · rw [h]; exact Rj
          · exact p6 k x y h) (fun k x y z => by
          have hk := un k z
          have h7 := p7 k x y hk.2
          refine ⟨fun q hq hq1 => ?_, ?_⟩
          · rw [el]
            rcases us q hq1 with h | h
            · rw [h]; unfold nwF; rw [el, e72]; split <;> omega
            · have := h7.2.1 q hq h
              unfold nwF; rw [el, e72]; split <;> omega
          · by_cases g : M1 72 k ≤ lft C M1 (R j) k
            · obtain ⟨p, q1, q2, q3, q4⟩ := h7.2.2
              refine ⟨p, by unfold ncF; rw [if_pos g, e74]; exact q1, q2, us' p q3, ?_⟩
              unfold nwF; rw [if_pos g, e72, el]; exact q4
            · refine ⟨j, by unfold ncF; rw [if_neg g], j2, by rw [e75, if_pos rfl], ?_⟩
              unfold nwF; rw [if_neg g]) (by
          obtain ⟨rk, q0, q1⟩ := p8
          obtain ⟨p, w1, w2, w3, w4⟩ := (p7 j j1 j2 j3).2.2
          have hpj : p ≠ j := fun e => by rw [e, j3] at w3; omega
          have hrp : rk p < i := by
            by_cases e : p = 0
            · rw [e, q0]; omega
            · exact (q1 p (by omega) w2 w3).1
          refine ⟨aN rk j i, by rw [aN_n (by omega)]; exact q0, fun k x y z => ?_⟩
          by_cases e : k = j
          · subst e
            rw [aN_e]
            refine ⟨by omega, p, by rw [e74]; exact w1, w2, us' p w3, by rw [aN_n hpj]; exact hrp, ?_⟩
            rw [el, ← w4]; exact j4
          · rw [aN_n e]
            have hz : M 75 k = 1 := (us k z).resolve_left e
            obtain ⟨y1, p', y2, y3, y4, y5, y6⟩ := q1 k x y hz
            have hp'j : p' ≠ j := fun e => by rw [e, j3] at y4; omega
            exact ⟨by omega, p', by rw [e74]; exact y2, y3, us' p' y4, by rw [aN_n hp'j]; exact y5, by rw [el]; exact y6⟩) (fun r k x1 x2 x3 x4 _ => by rw [el]; exact p9 r k x1 x2 x3 x4) (fun r k x1 x2 _ x3 x4 => by rw [el]; exact p9 r k x1 x2 x3 x4) (fun k x y z => by rw [el]; exact p10 k x y z) (fun k x y => by
          rw [ev]
          exact ⟨(p11 k x y).1, fun z => (p11 k x y).2 (un k z).2⟩) (by rw [eu]; exact p12) (fun r x y z => by rw [eu]; exact p13 r x y z) (fun k x y => by rw [ev]; exact p14 k x y) (by unfold cK at *; omega) (fun r x y => by rw [eu]; exact p15 r x y) (Or.inr ⟨by rw [eu], nw0⟩)
      refine ok_bind ht ?_
      rintro ⟨fd, M3⟩ ⟨j', z1, z2, z3⟩
      dsimp only at z1 z2 z3 ⊢
      rw [z1, i_ad_eq (by omega)]
      have f13 : fr [70, 71, 72, 74, 75] M M3 := fr_tr f1' z3 (by decide) (by decide)
      refine ok_mono (ih nn (i + 1) j' M3 (by omega) (by omega) (by omega) z2) ?_
      rintro z ⟨a, b, c1, c2, c3, c4, c5⟩
      exact ⟨a, b, c1, c2, c3, c4, fr_2 f13 c5⟩
theorem x_mL2 (y1 : Int) (hn : n ≤ 20) : ∀ (t nn q : Nat) (M : pm_M), q + t = n + 1 → t < nn → M 67 11 = n → (∀ k, k < q → M 72 k = FARL ∧ M 75 k = 0) → ok (f_Placing_match_L2 nn y1 q M) (fun z => z.1 = y1 ∧ (∀ k, k ≤ n → z.2 72 k = FARL ∧ z.2 75 k = 0) ∧ fr [72, 75] M z.2) := by
  intro t
  induction t with
  | zero =>
    intro nn q M hq hnn h67 h
    cases nn with
    | zero => omega
    | succ nn =>
      unfold f_Placing_match_L2
      exact ok_pos (by omega) (ok_some ⟨rfl, fun k hk => h k (by omega), fr_rf _ _⟩)
  | succ t ih =>
    intro nn q M hq hnn h67 h
    cases nn with
    | zero => omega
    | succ nn =>
      unfold f_Placing_match_L2
      rw [tn_nat, i_ad_eq (by omega)]
      have f1 : fr [72, 75] M (pm_ms (pm_ms M 72 q 1152921504606846976) 75 q 0) := fr_2 (fr_ms (by decide)) (fr_ms (by decide))
      refine ok_neg (by omega) (ok_pos (by omega) (ok_bd (ok_pos (by omega) (ok_bd (ok_mono (ih nn (q + 1) _ (by omega) (by omega) (by rw [f1 67 (by decide)]; exact h67) (fun k hk => ?_)) (fun z hz => ⟨hz.1, hz.2.1, fr_2 f1 hz.2.2⟩))))))
      rw [pm_ms_ne (show (72 : Nat) ≠ 75 by omega), msc, aSn, msc, aSn, pm_ms_ne (show (75 : Nat) ≠ 72 by omega)]
      by_cases e : k = q
      · rw [if_pos e, if_pos e]; exact ⟨rfl, rfl⟩
      · rw [if_neg e, if_neg e]; exact h k (by omega)
/-- the rows below row are matched -/
def HM (n pp row : Nat) (C : Nat → Nat → Int) (M : pm_M) : Prop :=
  M 67 11 = n ∧ (∀ r k, 1 ≤ r → r ≤ pp → 1 ≤ k → k ≤ n → M 69 (21 * r + k) = C r k) ∧ (∀ k, 1 ≤ k → k ≤ n → 0 ≤ M 73 k ∧ M 73 k < row) ∧
  (∃ mt : Nat → Nat, (∀ r, 1 ≤ r → r < row → 1 ≤ mt r ∧ mt r ≤ n ∧ M 73 (mt r) = (r : Int)) ∧ ∀ k, 1 ≤ k → k ≤ n → M 73 k ≠ 0 → mt (M 73 k).toNat = k) ∧
  smv n (fun k => if M 73 (k + 1) = 0 then 0 else 1) = (row : Int) - 1 ∧
  (∀ r k, 1 ≤ r → r < row → 1 ≤ k → k ≤ n → 0 ≤ lft C M r k ∧ (M 73 k = r → lft C M r k = 0)) ∧
  (∀ k, 1 ≤ k → k ≤ n → vX M k ≤ 0 ∧ (M 73 k = 0 → vX M k = 0) ∧ -2 * cK * ((row : Int) - 1) ≤ vX M k) ∧
  (∀ r, 1 ≤ r → r ≤ 8 → -2 * cK * ((row : Int) - 1) ≤ uX M r ∧ uX M r ≤ 2 * cK * ((row : Int) - 1) + cK) ∧ ∀ r, row ≤ r → r ≤ 8 → uX M r = 0
/-- in the midst of changing along the chain, at the column j -/
def AU (n row : Nat) (C : Nat → Nat → Int) (j : Nat) (M : pm_M) : Prop :=
  (∃ mt : Nat → Nat, (∀ r, 1 ≤ r → r ≤ row → mt r ≤ n ∧ mt r ≠ j ∧ M 73 (mt r) = (r : Int)) ∧ ∀ k, k ≤ n → k ≠ j → M 73 k ≠ 0 → mt (M 73 k).toNat = k) ∧ (∀ k, k ≤ n → k ≠ j → 0 ≤ M 73 k ∧ M 73 k ≤ row) ∧ ∀ k, 1 ≤ k → k ≤ n → k ≠ j → M 73 k ≠ 0 → lft C M (M 73 k).toNat k = 0
theorem x_L81 (hn : n ≤ 20) (hR : RF n row R) {M0 : pm_M} (h67 : M0 67 11 = n) {rk : Nat → Nat} (hrk : ∀ k, 1 ≤ k → k ≤ n → M0 75 k = 1 → ∃ p, M0 74 k = (p : Nat) ∧ p ≤ n ∧ M0 75 p = 1 ∧ rk p < rk k ∧ lft C M0 (R p) k = 0) (hmt : ∀ k, 1 ≤ k → k ≤ n → M0 75 k = 1 → R k ≠ 0) : ∀ (m nn y3 j : Nat) (M : pm_M), y3 + m ≤ n → m < nn → j ≤ n → fr [73] M0 M → (∀ k, k ≤ n → M0 75 k = 1 → rk k < m → M 73 k = (R k : Int) ∧ k ≠ j) → (j ≠ 0 → ∃ p, M0 74 j = (p : Nat) ∧ p ≤ n ∧ M0 75 p = 1 ∧ rk p < m ∧ lft C M0 (R p) j = 0) → AU n row C j M →
    ok (f_Placing_match_L81 nn j y3 M) (fun M' => AU n row C 0 M' ∧ (∀ k, 1 ≤ k → k ≤ n → (M' 73 k = 0 ↔ (M 73 k = 0 ∧ (k ≠ j)))) ∧ fr [73] M0 M') := by
  obtain ⟨R0, r1, r8, Rlt, Rinj, f, f1, fn, Rf⟩ := hR
  intro m
  induction m using Nat.strongRecOn with
  | ind m ih =>
    intro nn y3 j M hy hnn hj hf hfr hp hA
    cases nn with
    | zero => omega
    | succ nn =>
      unfold f_Placing_match_L81
      rw [hf 67 (by decide), h67]
      refine ok_neg (by omega) (ok_ite (fun e => ok_some ?_) (fun e => ok_pos (by omega) ?_))
      · have e : j = 0 := by omega
        subst e
        exact ⟨hA, fun k x y => ⟨fun h => ⟨h, by omega⟩, fun h => h.1⟩, hf⟩
      · have hj0 : j ≠ 0 := by omega
        obtain ⟨p, q1, q2, q3, q4, q5⟩ := hp hj0
        obtain ⟨s1, s2⟩ := hfr p q2 q3 q4
        have Rp : 1 ≤ R p ∧ R p ≤ row := by
          by_cases e : p = 0
          · rw [e, R0]; omega
          · have := Rlt p (by omega) q2
            have := hmt p (by omega) q2 q3
            omega
        rw [hf 74 (by decide), tn_nat, q1]
        refine ok_pos (by omega) (ok_pos (by omega) (ok_bd ?_))
        rw [tn_nat, s1, i_ad_eq (by omega)]
        generalize hM1 : pm_ms M 73 j (R p : Int) = M1
        have fr1 : fr [73] M M1 := by rw [← hM1]; exact fr_ms (by decide)
        have e73 : ∀ k, M1 73 k = if k = j then (R p : Int) else M 73 k := fun k => by rw [← hM1, msc, aSn]
        have el : ∀ r k, lft C M1 r k = lft C M r k := fun r k => by unfold lft uX vX; rw [fr1 70 (by decide), fr1 71 (by decide)]
        have el0 : ∀ r k, lft C M r k = lft C M0 r k := fun r k => by unfold lft uX vX; rw [hf 70 (by decide), hf 71 (by decide)]
        obtain ⟨⟨mt, t1, t2⟩, t3, t4⟩ := hA
        have mtp : mt (R p) = p := by
          have := t2 p q2 s2 (by rw [s1]; omega)
          rw [s1, tn_nat] at this
          exact this
        have hA1 : AU n row C p M1 := by
          refine ⟨⟨aN mt (R p) j, fun r x y => ?_, fun k x y z => ?_⟩, fun k x y => ?_, fun k x y z w => ?_⟩
          · by_cases er : r = R p
            · rw [er, aN_e]
              exact ⟨hj, Ne.symm s2, by rw [e73, if_pos rfl]⟩
            · rw [aN_n er]
              obtain ⟨b1, b2, b3⟩ := t1 r x y
              refine ⟨b1, fun h => er ?_, by rw [e73, if_neg b2]; exact b3⟩
              rw [h, s1] at b3
              omega
          · by_cases ek : k = j
            · rw [e73, if_pos ek, tn_nat, aN_e, ek]
            · rw [e73, if_neg ek] at z ⊢
              have g := t2 k x ek z
              rw [aN_n, g]
              intro h
              rw [h, mtp] at g
              exact y g.symm
          · by_cases ek : k = j
            · rw [e73, if_pos ek]; omega
            · rw [e73, if_neg ek]; exact t3 k x ek
          · by_cases ek : k = j
            · rw [e73, if_pos ek, tn_nat, el, el0, ek]; exact q5
            · rw [e73, if_neg ek] at w ⊢
              rw [el]
              exact t4 k x y ek w
        have := ih (rk p) q4 nn (y3 + 1) p M1 (by omega) (by omega) q2 (fr_2 hf fr1) (fun k x y z => ?_) (fun hp0 => ?_) hA1
        · rw [show ((y3 + 1 : Nat) : Int) = (y3 : Int) + 1 by omega] at this
          refine ok_mono this ?_
          rintro M2 ⟨z1, z2, z3⟩
          refine ⟨z1, fun k x y => ?_, z3⟩
          rw [z2 k x y]
          constructor
          · rintro ⟨h1, h2⟩
            by_cases ek : k = j
            · rw [e73, if_pos ek] at h1; omega
            · rw [e73, if_neg ek] at h1; exact ⟨h1, ek⟩
          · rintro ⟨h1, h2⟩
            refine ⟨by rw [e73, if_neg h2]; exact h1, fun h => ?_⟩
            rw [h, s1] at h1
            omega
        · obtain ⟨b1, b2⟩ := hfr k x y (by omega)
          exact ⟨by rw [e73, if_neg b2]; exact b1, fun h => by rw [h] at z; omega⟩
        · obtain ⟨p', b1, b2, b3, b4, b5⟩ := hrk p (by omega) q2 q3
          exact ⟨p', b1, b2, b3, b4, b5⟩
end
