/-! BEST: the reference chooses as the class -/
section
variable {A : Nat → Int} {M0 : pm_M} {P H : Nat} {x : Nat → Nat} {D : Nat → Nat → Int}
theorem lx_s {y : Nat → Nat} {k p : Nat} (hk : p + 1 + k = P) (h8 : P ≤ 8) (hy : ∀ q, p + 1 ≤ q → q < P → y q ≤ 12) : 0 ≤ sfx k (p + 1) (lx y) ∧ sfx k (p + 1) (lx y) < dW p := by
  have e : sfx k (p + 1) (lx y) = sfx k (p + 1) (lx (fun q => if p + 1 ≤ q ∧ q < P then y q else 0)) := sfx_congr k (p + 1) (fun q a b => by
    show (y q : Int) * dW q = ((if p + 1 ≤ q ∧ q < P then y q else 0 : Nat) : Int) * dW q
    rw [if_pos ⟨a, by omega⟩])
  have hb := lx_b (x := fun q => if p + 1 ≤ q ∧ q < P then y q else 0) (fun q => by
    by_cases h : p + 1 ≤ q ∧ q < P
    · rw [if_pos h]; exact hy q h.1 h.2
    · rw [if_neg h]; omega) k (p + 1) (by omega)
  rw [e]
  exact ⟨hb.1, hb.2.2 p rfl⟩
def best (M0 : pm_M) (A : Nat → Int) (P H : Nat) (x : Nat → Nat) : Prop := vld P H x ∧ ∀ y, vld P H y → smv P (vl M0 A y) ≤ smv P (vl M0 A x) ∧ (smv P (vl M0 A y) = smv P (vl M0 A x) → smv P (lx x) ≤ smv P (lx y))
theorem D_eq (hD : DPS M0 A P H D) (hx : best M0 A P H x) : ∀ p k, p + k = P → sfx k p (vl M0 A x) = D p (sB' x p) := by
  intro p
  induction p with
  | zero =>
    intro k hk
    have e := sfx_smv (vl M0 A x) k 0
    rw [smv, Int.zero_add, Nat.zero_add, show k = P by omega] at e
    have h0 : (0 : Nat) < 2 ^ H := Nat.pow_pos (by omega)
    have ub := dp_ub hD hx.1 P 0 0 (by omega) h0 (fun q _ _ _ => Nat.zero_testBit _)
    obtain ⟨y, y1, y2, y3, y4⟩ := dp_ex hD P 0 0 (by omega) h0
    have hy : vld P H y := ⟨fun q hq => y1 q (by omega) hq, fun q q' a b c d => y2 q q' (by omega) a (by omega) b c d⟩
    have e2 := sfx_smv (vl M0 A y) P 0
    rw [smv, Int.zero_add, Nat.zero_add] at e2
    have := (hx.2 y hy).1
    rw [show k = P by omega, sB']
    omega
  | succ p ih =>
    intro k hk
    have h1 := ih (k + 1) (by omega)
    have hs := sB_lt hx.1.1 p (by omega)
    have hs1 := sB_lt hx.1.1 (p + 1) (by omega)
    have ub := dp_ub hD hx.1 k (p + 1) (sB' x (p + 1)) (by omega) hs1 (sB_av hx.1 (by omega))
    obtain ⟨d1, d2, d3⟩ := hD.2 p (by omega) (sB' x p) hs
    rw [sfx] at h1
    by_cases e : x p = 0
    · have ev : vl M0 A x p = am M0 3 A p (-1) := by unfold vl; rw [if_pos e]
      have es : sB' x (p + 1) = sB' x p := by rw [sB', if_pos e]
      rw [es] at ub ⊢
      omega
    · have ev : vl M0 A x p = am M0 1 A p (((x p - 1 : Nat) : Int)) - am M0 0 A p (((x p - 1 : Nat) : Int)) := by
        unfold vl
        rw [if_neg e, show (x p : Int) - 1 = ((x p - 1 : Nat) : Int) by omega]
      have es : sB' x (p + 1) = sB' x p ||| 2 ^ (x p - 1) := by rw [sB', if_neg e]
      rw [es] at ub ⊢
      have hxp := hx.1.1 p (by omega)
      have := d2 (x p - 1) (by omega) (sB_av hx.1 (p := p) (by omega) p (Nat.le_refl _) (by omega) e)
      omega
/-- no lower digit does as well -/
theorem no_low (h12 : H ≤ 12) (h8 : P ≤ 8) (hD : DPS M0 A P H D) (hx : best M0 A P H x) {p d s' : Nat} (hp : p < P) (hd : d < x p) (hs' : s' < 2 ^ H) (hds : (d = 0 ∧ s' = sB' x p) ∨ (1 ≤ d ∧ d ≤ H ∧ (sB' x p).testBit (d - 1) = false ∧ s' = sB' x p ||| 2 ^ (d - 1))) : (if d = 0 then am M0 3 A p (-1) else am M0 1 A p ((d : Int) - 1) - am M0 0 A p ((d : Int) - 1)) + D (p + 1) s' ≠ D p (sB' x p) := by
  intro he
  obtain ⟨k, hk⟩ : ∃ k, p + 1 + k = P := ⟨P - (p + 1), by omega⟩
  obtain ⟨y, y1, y2, y3, y4⟩ := dp_ex hD k (p + 1) s' hk hs'
  have nd : ∀ q, p + 1 ≤ q → q < P → d ≠ 0 → y q ≠ d := fun q a b c z => by
    rcases hds with ⟨h, _⟩ | ⟨h1, h2, h3, h4⟩
    · exact c h
    · have := y3 q a b (by omega)
      rw [h4, z, tb_or, decide_eq_true rfl, Bool.or_true] at this
      cases this
  have sub : ∀ i, s'.testBit i = false → (sB' x p).testBit i = false := fun i h => by
    rcases hds with ⟨_, h2⟩ | ⟨_, _, _, h4⟩
    · rw [← h2]; exact h
    · rw [h4, tb_or, Bool.or_eq_false_iff] at h; exact h.1
  have hvy : vld P H (jn x (aN y p d) p) := by
    refine jn_vld hx.1 (by omega) (fun q a b => ?_) (fun q q' a b c e f g => ?_) (fun q a b c => ?_)
    · by_cases e : q = p
      · rw [e, aN_e]; have := hx.1.1 p hp; omega
      · rw [aN_n e]; exact y1 q (by omega) b
    · by_cases e1 : q = p
      · by_cases e2 : q' = p
        · rw [e1, e2]
        · rw [e1, aN_e] at f g
          rw [aN_n e2] at f
          exact absurd f.symm (nd q' (by omega) e g)
      · by_cases e2 : q' = p
        · rw [e2, aN_e, aN_n e1] at f
          rw [aN_n e1] at g
          exact absurd f (nd q (by omega) b (by omega))
        · rw [aN_n e1, aN_n e2] at f
          rw [aN_n e1] at g
          exact y2 q q' (by omega) b (by omega) e f g
    · by_cases e1 : q = p
      · rw [e1, aN_e] at c ⊢
        rcases hds with ⟨h, _⟩ | ⟨_, _, h3, _⟩
        · exact absurd h c
        · exact h3
      · rw [aN_n e1] at c ⊢
        exact sub _ (y3 q (by omega) b c)
  have j1 : ∀ q, q < p → jn x (aN y p d) p q = x q := fun q hq => by unfold jn; rw [if_pos hq]
  have j2 : jn x (aN y p d) p p = d := by unfold jn; rw [if_neg (by omega), aN_e]
  have j3 : ∀ q, p + 1 ≤ q → jn x (aN y p d) p q = y q := fun q hq => by unfold jn; rw [if_neg (by omega), aN_n (by omega)]
  have dec : ∀ (f : (Nat → Nat) → Nat → Int) (z : Nat → Nat), smv P (f z) = smv p (f z) + (f z p + sfx k (p + 1) (f z)) := fun f z => by
    have := sfx_smv (f z) (k + 1) p
    rw [show p + (k + 1) = P by omega, sfx] at this
    exact this
  have vy := dec (vl M0 A) (jn x (aN y p d) p)
  have vx := dec (vl M0 A) x
  have ly := dec lx (jn x (aN y p d) p)
  have lxx := dec lx x
  have a1 : smv p (vl M0 A (jn x (aN y p d) p)) = smv p (vl M0 A x) := smv_congr p (fun q hq => by unfold vl; rw [j1 q hq])
  have a2 : vl M0 A (jn x (aN y p d) p) p = if d = 0 then am M0 3 A p (-1) else am M0 1 A p ((d : Int) - 1) - am M0 0 A p ((d : Int) - 1) := by unfold vl; rw [j2]
  have a3 : sfx k (p + 1) (vl M0 A (jn x (aN y p d) p)) = sfx k (p + 1) (vl M0 A y) := sfx_congr k (p + 1) (fun q a b => by unfold vl; rw [j3 q a])
  have b1 : smv p (lx (jn x (aN y p d) p)) = smv p (lx x) := smv_congr p (fun q hq => by unfold lx; rw [j1 q hq])
  have b2 : lx (jn x (aN y p d) p) p = (d : Int) * dW p := by unfold lx; rw [j2]
  have b3 : sfx k (p + 1) (lx (jn x (aN y p d) p)) = sfx k (p + 1) (lx y) := sfx_congr k (p + 1) (fun q a b => by unfold lx; rw [j3 q a])
  have eqx := D_eq hD hx p (k + 1) (by omega)
  rw [sfx] at eqx
  rw [a1, a2, a3, y4] at vy
  rw [b1, b2, b3] at ly
  have hval : smv P (vl M0 A (jn x (aN y p d) p)) = smv P (vl M0 A x) := by rw [vy, vx]; omega
  have hlex := (hx.2 _ hvy).2 hval
  have ls := lx_s (y := y) hk h8 (fun q a b => by have := y1 q a b; omega)
  have ls2 := lx_s (y := x) hk h8 (fun q a b => by have := hx.1.1 q b; omega)
  have ex : lx x p = (x p : Int) * dW p := rfl
  have hdw := dW_b p
  have hm : ((d : Int) + 1) * dW p ≤ (x p : Int) * dW p := Int.mul_le_mul_of_nonneg_right (by omega) (by omega)
  rw [Int.add_mul, Int.one_mul] at hm
  rw [ly, lxx, ex] at hlex
  omega
end
