/-! BEST: one turn of the search -/
section
variable {n row pp : Nat} {C : Nat → Nat → Int} {R : Nat → Nat} {u0 v0 : Nat → Int}
theorem x_turn (hn : n ≤ 20) (hR : RF n row R) (hCB : CB n pp C) (hpp : row ≤ pp ∧ pp ≤ 8) (hU : U0 n row C R u0 v0) {i j0 : Nat} {M1 : pm_M} {E0 : Int} (hj0 : j0 ≤ n ∧ M1 75 j0 = 1) (hT1 : hT n pp C R M1) (hb : ∀ k, k ≤ n → M1 75 k = 0 ∨ M1 75 k = 1) (hs : smv (n + 1) (M1 75) = ((i + 1 : Nat) : Int)) (h0 : M1 75 0 = 1) (hmt : ∀ k, 1 ≤ k → k ≤ n → M1 75 k = 1 → R k ≠ 0)
    (hB : ∀ k, 1 ≤ k → k ≤ n → M1 75 k = 0 → (∀ q, q ≤ n → M1 75 q = 1 → nwF C M1 (R j0) k ≤ lft C M1 (R q) k) ∧ ∃ p, ncF C M1 (R j0) j0 k = (p : Nat) ∧ p ≤ n ∧ M1 75 p = 1 ∧ nwF C M1 (R j0) k = lft C M1 (R p) k)
    (hrk : ∃ rk : Nat → Nat, rk 0 = 0 ∧ ∀ k, 1 ≤ k → k ≤ n → M1 75 k = 1 → rk k < i + 1 ∧ ∃ p, M1 74 k = (p : Nat) ∧ p ≤ n ∧ M1 75 p = 1 ∧ rk p < rk k ∧ lft C M1 (R p) k = 0)
    (hD1 : ∀ r k, 1 ≤ r → r ≤ row → 1 ≤ k → k ≤ n → M1 75 k = 1 → 0 ≤ lft C M1 r k) (hD2 : ∀ r k, 1 ≤ r → r ≤ row → (∀ q, q ≤ n → M1 75 q = 1 → R q ≠ r) → 1 ≤ k → k ≤ n → 0 ≤ lft C M1 r k) (hEq : ∀ k, 1 ≤ k → k ≤ n → R k ≠ 0 → lft C M1 (R k) k = 0)
    (hv : ∀ k, 1 ≤ k → k ≤ n → vX M1 k ≤ 0 ∧ (M1 75 k = 0 → vX M1 k = v0 k)) (hur : -cK ≤ uX M1 row ∧ uX M1 row ≤ cK) (hu1 : ∀ r, 1 ≤ r → r ≤ 8 → r ≠ row → u0 r ≤ uX M1 r ∧ uX M1 r ≤ u0 r + E0) (hv1 : ∀ k, 1 ≤ k → k ≤ n → v0 k - E0 ≤ vX M1 k ∧ vX M1 k ≤ v0 k) (hE : 0 ≤ E0 ∧ E0 ≤ 2 * cK) (hup : ∀ r, row < r → r ≤ 8 → uX M1 r = u0 r)
    (hcase : (E0 = 0 ∧ uX M1 row = 0 ∧ ∀ k, 1 ≤ k → k ≤ n → M1 75 k = 0) ∨ (E0 = uX M1 row + cK ∧ ∀ k, 1 ≤ k → k ≤ n → M1 75 k = 0 → 0 ≤ nwF C M1 (R j0) k)) :
    ok (f_Placing_nearestFrom j0 M1) (fun z => ∃ j1 : Nat, z.1 = j1 ∧ PH n pp row C R u0 v0 (i + 1) j1 z.2 ∧ fr [70, 71, 72, 74] M1 z.2) := by
  obtain ⟨R0, r1, r8, Rlt, Rinj, f, f1, fn, Rf⟩ := id hR
  obtain ⟨a1, a2, a3, a4, a5⟩ := id hU
  have Rb : ∀ q, q ≤ n → M1 75 q = 1 → 1 ≤ R q ∧ R q ≤ row := by
    intro q hq hq1
    by_cases e : q = 0
    · rw [e, R0]; omega
    · have := Rlt q (by omega) hq
      have := hmt q (by omega) hq hq1
      omega
  have fun0 : M1 75 f = 0 := by
    rcases hb f fn with h | h
    · exact h
    · exact absurd Rf (hmt f f1 fn h)
  have ub : ∀ r, 1 ≤ r → r ≤ 8 → -32 * cK ≤ uX M1 r ∧ uX M1 r ≤ 32 * cK := by
    intro r x y
    by_cases e : r = row
    · rw [e]; unfold cK at *; omega
    · have g1 := hu1 r x y e
      have g2 := a4 r x y
      unfold cK at *
      omega
  have vb : ∀ k, 1 ≤ k → k ≤ n → -32 * cK ≤ vX M1 k ∧ vX M1 k ≤ 0 := by
    intro k x y
    have g1 := hv1 k x y
    have g2 := a3 k x y
    have g3 := (hv k x y).1
    unfold cK at *
    omega
  have lb : ∀ r k, 1 ≤ r → r ≤ row → 1 ≤ k → k ≤ n → -100 * cK ≤ lft C M1 r k ∧ lft C M1 r k ≤ 100 * cK := by
    intro r k x1 x2 x3 x4
    have g1 := ub r x1 (by omega)
    have g2 := vb k x3 x4
    have g3 := hCB r k x1 (by omega) x3 x4
    unfold lft
    unfold cK at *
    omega
  have hRj := Rb j0 hj0.1 hj0.2
  unfold f_Placing_nearestFrom
  rw [tn_nat, hT1.2.2 j0 hj0.1]
  refine ok_pos (by omega) ?_
  have hnear := x_near (j := j0) (r := R j0) hn hT1 (by omega) (by omega) (fun k x y => hCB _ k (by omega) (by omega) x y) (by have := ub (R j0) (by omega) (by omega); unfold cK at *; omega) (fun k x y => by have := vb k x y; unfold cK at *; omega) n pm_F 1 FARL 0 M1 (by omega) (by omega) (by unfold pm_F; omega) (fr_rf _ _) (fun k x y => by omega) (fun k _ => ⟨rfl, rfl⟩) (Or.inl ⟨rfl, rfl, fun k x y => by omega⟩)
  rw [show FARL = 1152921504606846976 from rfl, show ((1 : Nat) : Int) = 1 from rfl] at hnear
  refine ok_bind hnear ?_
  rintro ⟨d, fd, M2⟩ ⟨g1, g2, g3, g4⟩
  dsimp only at g1 g2 g3 g4 ⊢
  -- the least is found
  have hnf := (hB f f1 fn fun0).2
  obtain ⟨pf, _, pf2, pf3, pf4⟩ := hnf
  have hRpf := Rb pf pf2 pf3
  have nfb := lb (R pf) f (by omega) (by omega) f1 fn
  obtain ⟨j1, e1, j1a, j1b, j1c, e2, e3⟩ : ∃ j1 : Nat, fd = j1 ∧ 1 ≤ j1 ∧ j1 ≤ n ∧ M1 75 j1 = 0 ∧ d = nwF C M1 (R j0) j1 ∧ ∀ k, 1 ≤ k → k ≤ n → M1 75 k = 0 → d ≤ nwF C M1 (R j0) k := by
    rcases g4 with ⟨_, _, g⟩ | g
    · have := g f f1 fn fun0
      rw [pf4] at this
      unfold cK at nfb
      omega
    · exact g
  have m75 : M2 75 = M1 75 := g1 75 (by decide)
  have mu : ∀ r, uX M2 r = uX M1 r := fun r => by unfold uX; rw [g1 70 (by decide)]
  have mv : ∀ k, vX M2 k = vX M1 k := fun k => by unfold vX; rw [g1 71 (by decide)]
  -- bounds of the least
  have dD : uX M1 row + d ≤ cK := by
    have x1 := e3 f f1 fn fun0
    have x2 := (hB f f1 fn fun0).1 0 (by omega) h0
    rw [R0] at x2
    have x3 := hCB row f (by omega) (by omega) f1 fn
    have x4 := (hv f f1 fn).2 fun0
    have x5 := (a3 f f1 fn).2.1 Rf
    unfold lft at x2
    omega
  obtain ⟨pj, _, pj2, pj3, pj4⟩ := (hB j1 j1a j1b j1c).2
  have dlow : -cK ≤ uX M1 row + d ∧ (0 ≤ d ∨ ((∀ k, 1 ≤ k → k ≤ n → M1 75 k = 0) ∧ E0 = 0 ∧ uX M1 row = 0 ∧ -cK ≤ d)) := by
    rcases hcase with ⟨c1, c2, c3⟩ | ⟨c1, c2⟩
    · have p0 : pj = 0 := by
        apply Classical.byContradiction
        intro hne
        have := c3 pj (by omega) pj2
        omega
      rw [p0, R0] at pj4
      have x3 := hCB row j1 (by omega) (by omega) j1a j1b
      have x4 := (vb j1 j1a j1b).2
      unfold lft at pj4
      refine ⟨by omega, Or.inr ⟨c3, c1, c2, by omega⟩⟩
    · have := c2 j1 j1a j1b j1c
      exact ⟨by omega, Or.inl (by omega)⟩
  have hT2 : hT n pp C R M2 := hT_fr hT1 g1 (by decide)
  have hsh := x_shift (d := d) hn hT2 (by unfold cK at *; omega) (fun k x y => by rw [m75] at y; have := Rb k x (by rcases hb k x with h | h; exact absurd h y; exact h); omega) (fun k k' x y z w e => by
      rw [m75] at z w
      have hz : M1 75 k = 1 := by rcases hb k x with h | h; exact absurd h z; exact h
      exact Rinj k k' x y (by have := Rb k x hz; omega) e) (fun r x y => by rw [mu]; have := ub r x y; unfold cK at *; omega) (fun k x y => by rw [mv]; have := vb k x y; unfold cK at *; omega) (fun k x y => by
      rw [m75] at y
      have hk1 : 1 ≤ k := by
        apply Classical.byContradiction
        intro hne
        rw [show k = 0 by omega, h0] at y
        omega
      rw [(g2 k hk1 x y).1]
      obtain ⟨p, _, p2, p3, p4⟩ := (hB k hk1 x y).2
      rw [p4]
      have hp := Rb p p2 p3
      have := lb (R p) k (by omega) (by omega) hk1 x
      unfold cK at *
      omega) (n + 1) pm_F 0 M2 (by omega) (by unfold pm_F; omega) (fr_rf _ _) (fun r => by rw [trk]; rfl) (fun k _ _ => by rw [if_neg (by omega)]) (fun k _ => by rw [if_neg (by omega)])
  rw [show ((0 : Nat) : Int) = 0 from rfl] at hsh
  unfold f_Placing_shift
  refine ok_bind (ok_bind hsh (fun M' h => ok_some h)) ?_
  rintro M3 ⟨k1, k2, k3, k4⟩
  have n75 : M3 75 = M1 75 := by rw [k1 75 (by decide)]; exact m75
  have n74 : M3 74 = M2 74 := k1 74 (by decide)
  -- tree rows
  have tU : ∀ q, q ≤ n → M1 75 q = 1 → uX M3 (R q) = uX M1 (R q) + d := fun q x y => by
    rw [k2, if_pos ((trk_t M2 R (R q) (n + 1)).mpr ⟨q, by omega, by rw [m75, y]; omega, rfl⟩), mu]
  have tN : ∀ r, (∀ q, q ≤ n → M1 75 q = 1 → R q ≠ r) → uX M3 r = uX M1 r := fun r h => by
    rw [k2, if_neg, mu]
    intro z
    obtain ⟨q, x, y, w⟩ := (trk_t M2 R r (n + 1)).mp z
    rw [m75] at y
    have hz : M1 75 q = 1 := by rcases hb q (by omega) with h | h; exact absurd h y; exact h
    exact h q (by omega) hz w
  have vU : ∀ k, 1 ≤ k → k ≤ n → M1 75 k = 1 → vX M3 k = vX M1 k - d := fun k x y z => by rw [k3 k x y, m75, if_pos (by omega), mv]
  have vN' : ∀ k, 1 ≤ k → k ≤ n → M1 75 k = 0 → vX M3 k = vX M1 k := fun k x y z => by rw [k3 k x y, m75, if_neg (fun h => h z), mv]
  have wN : ∀ k, 1 ≤ k → k ≤ n → M1 75 k = 0 → M3 72 k = nwF C M1 (R j0) k - d := fun k x y z => by rw [k4 k y, m75, if_pos z, (g2 k x y z).1]
  refine ok_some ⟨j1, e1, ?_, fr_tr g1 k1 (by decide) (by decide)⟩
  show PH n pp row C R u0 v0 (i + 1) j1 M3
  have nodd : ∀ k, k ≤ n → M1 75 k = 1 → k ≠ 0 → 0 ≤ d := fun k x y z => by
    rcases dlow.2 with h | ⟨h, _⟩
    · exact h
    · have := h k (by omega) x; omega
  refine ⟨hT_fr hT2 k1 (by decide), by rw [n75]; exact hb, by rw [n75]; exact hs, by rw [n75]; exact h0, ⟨j1a, j1b, by rw [n75]; exact j1c, by rw [wN j1 j1a j1b j1c]; omega⟩, by rw [n75]; exact hmt, ?_, ?_, ?_, ?_, ?_, ?_, ?_, ?_, fun r x y => by rw [tN r (fun q a b c => by have := Rb q a b; omega)]; exact hup r x y⟩
  · rw [n75]
    intro k x y z
    have hBk := hB k x y z
    refine ⟨by rw [wN k x y z]; have := e3 k x y z; omega, fun q hq hq1 => ?_, ?_⟩
    · have := hBk.1 q hq hq1
      rw [wN k x y z]
      unfold lft at this ⊢
      rw [tU q hq hq1, vN' k x y z]
      omega
    · obtain ⟨p, p1, p2, p3, p4⟩ := hBk.2
      refine ⟨p, by rw [n74, (g2 k x y z).2]; exact p1, p2, p3, ?_⟩
      rw [wN k x y z]
      unfold lft at p4 ⊢
      rw [tU p p2 p3, vN' k x y z]
      omega
  · rw [n75]
    obtain ⟨rk, q0, q1⟩ := hrk
    refine ⟨rk, q0, fun k x y z => ?_⟩
    obtain ⟨w1, p, w2, w3, w4, w5, w6⟩ := q1 k x y z
    refine ⟨w1, p, by rw [n74, (g3 k (Or.inr (Or.inr (by omega)))).2]; exact w2, w3, w4, w5, ?_⟩
    unfold lft at w6 ⊢
    rw [tU p w3 w4, vU k x y z]
    omega
  · intro r k x1 x2 x3 x4
    by_cases ht : ∃ q, q ≤ n ∧ M1 75 q = 1 ∧ R q = r
    · obtain ⟨q, hq, hq1, rfl⟩ := ht
      rcases hb k x4 with hk | hk
      · have y1 := (hB k x3 x4 hk).1 q hq hq1
        have y2 := e3 k x3 x4 hk
        unfold lft at y1 ⊢
        rw [tU q hq hq1, vN' k x3 x4 hk]
        omega
      · have := hD1 (R q) k x1 x2 x3 x4 hk
        unfold lft at this ⊢
        rw [tU q hq hq1, vU k x3 x4 hk]
        omega
    · have hnt : ∀ q, q ≤ n → M1 75 q = 1 → R q ≠ r := fun q a b c => ht ⟨q, a, b, c⟩
      have := hD2 r k x1 x2 hnt x3 x4
      rcases hb k x4 with hk | hk
      · unfold lft at this ⊢
        rw [tN r hnt, vN' k x3 x4 hk]
        omega
      · have hd0 := nodd k x4 hk (by omega)
        unfold lft at this ⊢
        rw [tN r hnt, vU k x3 x4 hk]
        omega
  · intro k x y z
    have := hEq k x y z
    rcases hb k y with hk | hk
    · have hnt : ∀ q, q ≤ n → M1 75 q = 1 → R q ≠ R k := by
        intro q a b c
        have e := Rinj k q y a z c.symm
        rw [e, b] at hk
        omega
      unfold lft at this ⊢
      rw [tN (R k) hnt, vN' k x y hk]
      omega
    · unfold lft at this ⊢
      rw [tU k y hk, vU k x y hk]
      omega
  · rw [n75]
    intro k x y
    have hvk := hv k x y
    rcases hb k y with hk | hk
    · exact ⟨by rw [vN' k x y hk]; exact hvk.1, fun _ => by rw [vN' k x y hk]; exact hvk.2 hk⟩
    · have hd0 := nodd k y hk (by omega)
      exact ⟨by rw [vU k x y hk]; omega, fun h => by omega⟩
  · have e0 := tU 0 (by omega) h0
    rw [R0] at e0
    rw [e0]
    exact ⟨dlow.1, dD⟩
  · have e0 := tU 0 (by omega) h0
    rw [R0] at e0
    intro r x y z
    have g := hu1 r x y z
    rw [e0]
    by_cases ht : ∃ q, q ≤ n ∧ M1 75 q = 1 ∧ R q = r
    · obtain ⟨q, hq, hq1, rfl⟩ := ht
      have hq0 : q ≠ 0 := fun e => z (by rw [e, R0])
      have hd0 := nodd q hq hq1 hq0
      rw [tU q hq hq1]
      rcases hcase with ⟨c1, c2, c3⟩ | ⟨c1, c2⟩
      · have := c3 q (by omega) hq; omega
      · omega
    · rw [tN r (fun q a b c => ht ⟨q, a, b, c⟩)]
      rcases hcase with ⟨c1, c2, c3⟩ | ⟨c1, c2⟩
      · have := dlow.1; omega
      · rcases dlow.2 with h | ⟨h1, h2, h3, h4⟩ <;> omega
  · have e0 := tU 0 (by omega) h0
    rw [R0] at e0
    intro k x y
    have g := hv1 k x y
    rw [e0]
    rcases hb k y with hk | hk
    · rw [vN' k x y hk]
      rcases hcase with ⟨c1, c2, c3⟩ | ⟨c1, c2⟩
      · have := dlow.1; omega
      · rcases dlow.2 with h | ⟨h1, h2, h3, h4⟩ <;> omega
    · have hd0 := nodd k y hk (by omega)
      rw [vU k x y hk]
      rcases hcase with ⟨c1, c2, c3⟩ | ⟨c1, c2⟩
      · have := c3 k x y; omega
      · omega
end
