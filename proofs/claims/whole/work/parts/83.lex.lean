/-! BEST: placings in the pure -/
def sfx : Nat → Nat → (Nat → Int) → Int
  | 0, _, _ => 0
  | k + 1, p, f => f p + sfx k (p + 1) f
theorem sfx_smv (f : Nat → Int) : ∀ k p, smv (p + k) f = smv p f + sfx k p f
  | 0, p => by rw [sfx]; show smv p f = _; omega
  | k + 1, p => by rw [show p + (k + 1) = (p + 1) + k by omega, sfx_smv f k (p + 1), smv, sfx]; omega
theorem sfx_congr {f g : Nat → Int} : ∀ k p, (∀ q, p ≤ q → q < p + k → f q = g q) → sfx k p f = sfx k p g
  | 0, _, _ => rfl
  | k + 1, p, h => by rw [sfx, sfx, h p (by omega) (by omega), sfx_congr k (p + 1) (fun q a b => h q (by omega) (by omega))]
/-- what one plinth brings with the digit x -/
noncomputable def vl (M0 : pm_M) (A : Nat → Int) (x : Nat → Nat) (p : Nat) : Int := if x p = 0 then am M0 3 A p (-1) else am M0 1 A p ((x p : Int) - 1) - am M0 0 A p ((x p : Int) - 1)
def lx (x : Nat → Nat) (p : Nat) : Int := (x p : Int) * dW p
def vld (P H : Nat) (x : Nat → Nat) : Prop := (∀ p, p < P → x p ≤ H) ∧ ∀ p q, p < P → q < P → x p = x q → x p ≠ 0 → p = q
theorem dW_m {p : Nat} (hp : p < 7) : dW p = 13 * dW (p + 1) := by
  rcases (show p = 0 ∨ p = 1 ∨ p = 2 ∨ p = 3 ∨ p = 4 ∨ p = 5 ∨ p = 6 by omega) with rfl | rfl | rfl | rfl | rfl | rfl | rfl <;> decide
theorem lx_b {x : Nat → Nat} (hx : ∀ q, x q ≤ 12) : ∀ k p, p + k ≤ 8 → 0 ≤ sfx k p (lx x) ∧ (1 ≤ k → sfx k p (lx x) < 13 * dW p) ∧ (∀ p', p = p' + 1 → sfx k p (lx x) < dW p')
  | 0, p, hp => by
    rw [sfx]
    exact ⟨Int.le_refl _, fun h => by omega, fun p' _ => by have := dW_b p'; omega⟩
  | k + 1, p, hp => by
    have ih := lx_b hx k (p + 1) (by omega)
    have hxp := hx p
    have hd := dW_b p
    have h1 := mul_bd (a := (x p : Int)) (A := 12) (by omega) (b := dW p) (B := dW p) (by omega)
    have h2 := ih.2.2 p rfl
    have e : lx x p = (x p : Int) * dW p := rfl
    rw [sfx, e]
    refine ⟨by omega, fun _ => by omega, fun p' hp' => ?_⟩
    have := dW_m (p := p') (by omega)
    rw [← hp'] at this
    omega
section
variable {A : Nat → Int} {M0 : pm_M} {P H : Nat}
/-- the class's placing, as digits -/
def xm (H : Nat) (m : Nat → Nat) (p : Nat) : Nat := if m p ≤ H then m p else 0
def my (H : Nat) (y : Nat → Nat) (p : Nat) : Nat := if y p = 0 then H + 1 + p else y p
theorem Cs_vl (hH : A 1 = H) {m x : Nat → Nat} {p : Nat} (hm : 1 ≤ m p) (h : (m p ≤ H → x p = m p) ∧ (H < m p → x p = 0)) : Cs M0 A (p + 1) (m p) = lx x p - vl M0 A x p * 815730721 ∧ Wt M0 A p (m p) = vl M0 A x p := by
  unfold Cs Wt vl lx
  rw [Nat.add_sub_cancel]
  by_cases e : m p ≤ H
  · rw [if_pos (by omega), if_pos (by omega), h.1 e, if_neg (by omega)]; exact ⟨rfl, rfl⟩
  · rw [if_neg (by omega), if_neg (by omega), h.2 (by omega), if_pos rfl, show (((0 : Nat) : Int)) = 0 from rfl, Int.zero_mul]; exact ⟨rfl, rfl⟩
theorem sum_lv (x : Nat → Nat) : ∀ P, smv P (fun p => lx x p - vl M0 A x p * 815730721) = smv P (lx x) - smv P (vl M0 A x) * 815730721
  | 0 => by rw [smv, smv, smv]; omega
  | P + 1 => by rw [smv, smv, smv, sum_lv x P, Int.add_mul]; omega
/-- the class's placing is best, and the lowest of the best -/
theorem plc_best (hH : A 1 = H) (h12 : H ≤ 12) (h8 : P ≤ 8) {mt : Nat → Nat} (h1 : ∀ p, p < P → 1 ≤ mt p ∧ mt p ≤ H + P) (h2 : ∀ p p', p < P → p' < P → mt p = mt p' → p = p') (h3 : ∀ m : Nat → Nat, (∀ p, p < P → 1 ≤ m p ∧ m p ≤ H + P) → (∀ p p', p < P → p' < P → m p = m p' → p = p') → smv P (fun p => Cs M0 A (p + 1) (mt p)) ≤ smv P (fun p => Cs M0 A (p + 1) (m p))) : vld P H (xm H mt) ∧ smv P (fun p => Wt M0 A p (mt p)) = smv P (vl M0 A (xm H mt)) ∧ ∀ y, vld P H y → smv P (vl M0 A y) ≤ smv P (vl M0 A (xm H mt)) ∧ (smv P (vl M0 A y) = smv P (vl M0 A (xm H mt)) → smv P (lx (xm H mt)) ≤ smv P (lx y)) := by
  have hx : ∀ p, (mt p ≤ H → xm H mt p = mt p) ∧ (H < mt p → xm H mt p = 0) := fun p => by unfold xm; exact ⟨fun h => by rw [if_pos h], fun h => by rw [if_neg (by omega)]⟩
  have v1 : vld P H (xm H mt) := by
    refine ⟨fun p hp => by unfold xm; split <;> omega, fun p q hp hq he hne => ?_⟩
    have a := hx p
    have b := hx q
    have c1 : mt p ≤ H := by
      apply Classical.byContradiction
      intro hc; exact hne (a.2 (by omega))
    have c2 : mt q ≤ H := by
      apply Classical.byContradiction
      intro hc; rw [b.2 (by omega)] at he; exact hne he
    rw [a.1 c1, b.1 c2] at he
    exact h2 p q hp hq he
  have s1 : smv P (fun p => Cs M0 A (p + 1) (mt p)) = smv P (lx (xm H mt)) - smv P (vl M0 A (xm H mt)) * 815730721 := by
    rw [← sum_lv]
    exact smv_congr P (fun p hp => (Cs_vl hH (h1 p hp).1 (hx p)).1)
  refine ⟨v1, smv_congr P (fun p hp => (Cs_vl hH (h1 p hp).1 (hx p)).2), fun y hy => ?_⟩
  have hmy : ∀ p, p < P → 1 ≤ my H y p ∧ my H y p ≤ H + P := fun p hp => by
    have := hy.1 p hp
    unfold my; split <;> omega
  have hinj : ∀ p p', p < P → p' < P → my H y p = my H y p' → p = p' := fun p p' hp hp' he => by
    have a := hy.1 p hp
    have b := hy.1 p' hp'
    unfold my at he
    by_cases e1 : y p = 0
    · rw [if_pos e1] at he
      by_cases e2 : y p' = 0
      · rw [if_pos e2] at he; omega
      · rw [if_neg e2] at he; omega
    · rw [if_neg e1] at he
      by_cases e2 : y p' = 0
      · rw [if_pos e2] at he; omega
      · rw [if_neg e2] at he; exact hy.2 p p' hp hp' he e1
  have hyx : ∀ p, p < P → (my H y p ≤ H → y p = my H y p) ∧ (H < my H y p → y p = 0) := fun p hp => by
    have a := hy.1 p hp
    unfold my
    by_cases e1 : y p = 0
    · rw [if_pos e1]; exact ⟨fun h => by omega, fun _ => e1⟩
    · rw [if_neg e1]; exact ⟨fun _ => rfl, fun h => by omega⟩
  have s2 : smv P (fun p => Cs M0 A (p + 1) (my H y p)) = smv P (lx y) - smv P (vl M0 A y) * 815730721 := by
    rw [← sum_lv]
    exact smv_congr P (fun p hp => (Cs_vl hH (hmy p hp).1 (hyx p hp)).1)
  have hle := h3 (my H y) hmy hinj
  rw [s1, s2] at hle
  -- the digits are below one shilling
  have lb : ∀ x : Nat → Nat, (∀ p, p < P → x p ≤ 12) → 0 ≤ smv P (lx x) ∧ smv P (lx x) < 815730721 := by
    intro x hx
    have e : smv P (lx x) = sfx P 0 (lx (fun p => if p < P then x p else 0)) := by
      have := sfx_smv (lx x) P 0
      rw [Nat.zero_add, smv, Int.zero_add] at this
      rw [this]
      refine sfx_congr P 0 (fun q _ hq => ?_)
      show (x q : Int) * dW q = ((if q < P then x q else 0 : Nat) : Int) * dW q
      rw [if_pos (by omega)]
    have hb := lx_b (x := fun p => if p < P then x p else 0) (fun q => by
      by_cases h : q < P
      · rw [if_pos h]; exact hx q h
      · rw [if_neg h]; omega) P 0 (by omega)
    rw [e]
    refine ⟨hb.1, ?_⟩
    by_cases h0 : P = 0
    · rw [h0, sfx]; omega
    · have := hb.2.1 (by omega)
      have e7 : dW 0 = 62748517 := rfl
      omega
  have l1 := lb (xm H mt) (fun p hp => by have := v1.1 p hp; omega)
  have l2 := lb y (fun p hp => by have := hy.1 p hp; omega)
  refine ⟨by omega, fun he => by rw [he] at hle; omega⟩
-- the reference's table
/-- what is most from the plinth p on without the heads of the set -/
def DPS (M0 : pm_M) (A : Nat → Int) (P H : Nat) (D : Nat → Nat → Int) : Prop := (∀ s, s < 2 ^ H → D P s = 0) ∧ ∀ p, p < P → ∀ s, s < 2 ^ H → am M0 3 A p (-1) + D (p + 1) s ≤ D p s ∧ (∀ h, h < H → s.testBit h = false → am M0 1 A p (h : Int) - am M0 0 A p (h : Int) + D (p + 1) (s ||| 2 ^ h) ≤ D p s) ∧ (D p s = am M0 3 A p (-1) + D (p + 1) s ∨ ∃ h, h < H ∧ s.testBit h = false ∧ D p s = am M0 1 A p (h : Int) - am M0 0 A p (h : Int) + D (p + 1) (s ||| 2 ^ h))
theorem or_lt {s h : Nat} (hs : s < 2 ^ H) (hh : h < H) : s ||| 2 ^ h < 2 ^ H := Nat.or_lt_two_pow hs (Nat.pow_lt_pow_right (by omega) hh)
/-- a placing of the plinths from p on without the heads of the set -/
def av (P p s : Nat) (y : Nat → Nat) : Prop := ∀ q, p ≤ q → q < P → y q ≠ 0 → s.testBit (y q - 1) = false
theorem dp_ub {D : Nat → Nat → Int} (hD : DPS M0 A P H D) {y : Nat → Nat} (hy : vld P H y) : ∀ k p s, p + k = P → s < 2 ^ H → av P p s y → sfx k p (vl M0 A y) ≤ D p s
  | 0, p, s, hp, hs, _ => by rw [sfx, show p = P by omega, hD.1 s hs]; omega
  | k + 1, p, s, hp, hs, ha => by
    obtain ⟨d1, d2, d3⟩ := hD.2 p (by omega) s hs
    rw [sfx]
    by_cases e : y p = 0
    · have ih := dp_ub hD hy k (p + 1) s (by omega) hs (fun q a b c => ha q (by omega) b c)
      have ev : vl M0 A y p = am M0 3 A p (-1) := by unfold vl; rw [if_pos e]
      omega
    · have hyp := hy.1 p (by omega)
      have hb := ha p (Nat.le_refl _) (by omega) e
      have ih := dp_ub hD hy k (p + 1) (s ||| 2 ^ (y p - 1)) (by omega) (or_lt hs (by omega)) (fun q a b c => by
        rw [tb_or, ha q (by omega) b c, Bool.false_or]
        apply decide_eq_false
        intro he
        have := hy.2 p q (by omega) b (by omega) e
        omega)
      have ev : vl M0 A y p = am M0 1 A p (((y p - 1 : Nat) : Int)) - am M0 0 A p (((y p - 1 : Nat) : Int)) := by
        unfold vl
        rw [if_neg e, show (y p : Int) - 1 = ((y p - 1 : Nat) : Int) by omega]
      have := d2 (y p - 1) (by omega) hb
      omega
/-- the table's numbers are reached -/
theorem dp_ex {D : Nat → Nat → Int} (hD : DPS M0 A P H D) : ∀ k p s, p + k = P → s < 2 ^ H → ∃ y : Nat → Nat, (∀ q, p ≤ q → q < P → y q ≤ H) ∧ (∀ q q', p ≤ q → q < P → p ≤ q' → q' < P → y q = y q' → y q ≠ 0 → q = q') ∧ av P p s y ∧ sfx k p (vl M0 A y) = D p s
  | 0, p, s, hp, hs => ⟨fun _ => 0, fun q _ _ => by omega, fun q q' _ _ _ _ _ h => absurd rfl h, fun q _ _ h => absurd rfl h, by rw [sfx, show p = P by omega, hD.1 s hs]⟩
  | k + 1, p, s, hp, hs => by
    obtain ⟨d1, d2, d3⟩ := hD.2 p (by omega) s hs
    rcases d3 with e | ⟨h, hh, hb, e⟩
    · obtain ⟨y, y1, y2, y3, y4⟩ := dp_ex hD k (p + 1) s (by omega) hs
      refine ⟨aN y p 0, fun q a b => ?_, fun q q' a b c d he hne => ?_, fun q a b hne => ?_, ?_⟩
      · by_cases e2 : q = p
        · rw [e2, aN_e]; omega
        · rw [aN_n e2]; exact y1 q (by omega) b
      · have e1 : q ≠ p := fun z => by rw [z, aN_e] at hne; exact hne rfl
        have e2 : q' ≠ p := fun z => by rw [z, aN_e] at he; exact hne he
        rw [aN_n e1, aN_n e2] at he
        rw [aN_n e1] at hne
        exact y2 q q' (by omega) b (by omega) d he hne
      · have e1 : q ≠ p := fun z => by rw [z, aN_e] at hne; exact hne rfl
        rw [aN_n e1] at hne ⊢
        exact y3 q (by omega) b hne
      · have ev : vl M0 A (aN y p 0) p = am M0 3 A p (-1) := by unfold vl; rw [aN_e, if_pos rfl]
        have es : sfx k (p + 1) (vl M0 A (aN y p 0)) = sfx k (p + 1) (vl M0 A y) := sfx_congr k (p + 1) (fun q a b => by unfold vl; rw [aN_n (by omega)])
        rw [sfx, ev, es, y4, e]
    · obtain ⟨y, y1, y2, y3, y4⟩ := dp_ex hD k (p + 1) (s ||| 2 ^ h) (by omega) (or_lt hs hh)
      have nh : ∀ q, p + 1 ≤ q → q < P → y q ≠ h + 1 := fun q a b z => by
        have := y3 q a b (by omega)
        rw [z, tb_or, Nat.add_sub_cancel, decide_eq_true rfl, Bool.or_true] at this
        cases this
      refine ⟨aN y p (h + 1), fun q a b => ?_, fun q q' a b c d he hne => ?_, fun q a b hne => ?_, ?_⟩
      · by_cases e2 : q = p
        · rw [e2, aN_e]; omega
        · rw [aN_n e2]; exact y1 q (by omega) b
      · by_cases e1 : q = p
        · by_cases e2 : q' = p
          · rw [e1, e2]
          · rw [e1, aN_e, aN_n e2] at he
            exact absurd he.symm (nh q' (by omega) d)
        · by_cases e2 : q' = p
          · rw [e2, aN_e, aN_n e1] at he
            exact absurd he (nh q (by omega) b)
          · rw [aN_n e1, aN_n e2] at he
            rw [aN_n e1] at hne
            exact y2 q q' (by omega) b (by omega) d he hne
      · by_cases e1 : q = p
        · rw [e1, aN_e, Nat.add_sub_cancel]; exact hb
        · rw [aN_n e1] at hne ⊢
          have := y3 q (by omega) b hne
          rw [tb_or, Bool.or_eq_false_iff] at this
          exact this.1
      · have ev : vl M0 A (aN y p (h + 1)) p = am M0 1 A p (h : Int) - am M0 0 A p (h : Int) := by
          unfold vl
          rw [aN_e, if_neg (by omega), show ((h + 1 : Nat) : Int) - 1 = (h : Int) by omega]
        have es : sfx k (p + 1) (vl M0 A (aN y p (h + 1))) = sfx k (p + 1) (vl M0 A y) := sfx_congr k (p + 1) (fun q a b => by unfold vl; rw [aN_n (by omega)])
        rw [sfx, ev, es, y4, e]
/-- the heads that stand on the plinths below p -/
def sB' (x : Nat → Nat) : Nat → Nat
  | 0 => 0
  | p + 1 => if x p = 0 then sB' x p else sB' x p ||| 2 ^ (x p - 1)
theorem sB_t (x : Nat → Nat) (i : Nat) : ∀ p, (sB' x p).testBit i = true ↔ ∃ q, q < p ∧ x q = i + 1
  | 0 => by
    rw [sB', Nat.zero_testBit]
    exact ⟨fun h => Bool.noConfusion h, fun ⟨q, h, _⟩ => absurd h (Nat.not_lt_zero q)⟩
  | p + 1 => by
    have ih := sB_t x i p
    rw [sB']
    by_cases e : x p = 0
    · rw [if_pos e, ih]
      constructor
      · rintro ⟨q, a, b⟩; exact ⟨q, by omega, b⟩
      · rintro ⟨q, a, b⟩
        by_cases eq : q = p
        · rw [eq, e] at b; omega
        · exact ⟨q, by omega, b⟩
    · rw [if_neg e, tb_or, Bool.or_eq_true, ih, decide_eq_true_iff]
      constructor
      · rintro (⟨q, a, b⟩ | h)
        · exact ⟨q, by omega, b⟩
        · exact ⟨p, by omega, by omega⟩
      · rintro ⟨q, a, b⟩
        by_cases eq : q = p
        · rw [eq] at b; exact Or.inr (by omega)
        · exact Or.inl ⟨q, by omega, b⟩
theorem sB_lt {x : Nat → Nat} (hx : ∀ p, p < P → x p ≤ H) : ∀ p, p ≤ P → sB' x p < 2 ^ H
  | 0, _ => by rw [sB']; exact Nat.pow_pos (by omega)
  | p + 1, hp => by
    have ih := sB_lt hx p (by omega)
    have := hx p (by omega)
    rw [sB']
    split
    · exact ih
    · exact or_lt ih (by omega)
theorem sB_av {x : Nat → Nat} (hx : vld P H x) {p : Nat} (hp : p ≤ P) : av P p (sB' x p) x := by
  intro q a b c
  cases h : (sB' x p).testBit (x q - 1)
  · rfl
  · obtain ⟨q', d, e⟩ := (sB_t x (x q - 1) p).mp h
    have := hx.2 q' q (by omega) b (by omega) (by omega)
    omega
/-- joined: x below p, y from p on -/
def jn (x y : Nat → Nat) (p q : Nat) : Nat := if q < p then x q else y q
theorem jn_vld {x y : Nat → Nat} {p : Nat} (hx : vld P H x) (hp : p ≤ P) (h1 : ∀ q, p ≤ q → q < P → y q ≤ H) (h2 : ∀ q q', p ≤ q → q < P → p ≤ q' → q' < P → y q = y q' → y q ≠ 0 → q = q') (h3 : av P p (sB' x p) y) : vld P H (jn x y p) := by
  refine ⟨fun q hq => ?_, fun q q' hq hq' he hne => ?_⟩
  · unfold jn
    split
    · exact hx.1 q hq
    · exact h1 q (by omega) hq
  · unfold jn at he hne
    have cross : ∀ a b, a < p → p ≤ b → b < P → x a = y b → y b ≠ 0 → False := by
      intro a b c d e f g
      have t := h3 b d e g
      have : (sB' x p).testBit (y b - 1) = true := (sB_t x (y b - 1) p).mpr ⟨a, c, by omega⟩
      rw [this] at t
      cases t
    by_cases e1 : q < p
    · rw [if_pos e1] at he hne
      by_cases e2 : q' < p
      · rw [if_pos e2] at he; exact hx.2 q q' hq hq' he hne
      · rw [if_neg e2] at he; exact absurd (cross q q' e1 (by omega) hq' he (by omega)) (fun z => z)
    · rw [if_neg e1] at he hne
      by_cases e2 : q' < p
      · rw [if_pos e2] at he; exact absurd (cross q' q e2 (by omega) hq he.symm hne) (fun z => z)
      · rw [if_neg e2] at he; exact h2 q q' (by omega) hq (by omega) hq' he hne
end
