/-! BEST: the class's matching is a cheapest one -/
section
variable {A : Nat → Int} {M0 : pm_M} {P H n : Nat} {C : Nat → Nat → Int}
theorem x_f70 : ∀ (t nn q : Nat) (M : pm_M), q + t = 9 → t < nn → (∀ k, k < q → M 70 k = 0) → ok (f_Arrays_fill2_70_L6 nn 0 q 9 M) (fun M' => (∀ k, k < 9 → M' 70 k = 0) ∧ fr [70] M M') := by
  intro t
  induction t with
  | zero =>
    intro nn q M hq hnn h
    cases nn with
    | zero => omega
    | succ nn =>
      unfold f_Arrays_fill2_70_L6
      exact ok_pos (by omega) (ok_some ⟨fun k hk => h k (by omega), fr_rf _ _⟩)
  | succ t ih =>
    intro nn q M hq hnn h
    cases nn with
    | zero => omega
    | succ nn =>
      unfold f_Arrays_fill2_70_L6
      rw [tn_nat, i_ad_eq (by omega)]
      refine ok_neg (by omega) (ok_pos (by omega) (ok_bd (ok_mono (ih nn (q + 1) _ (by omega) (by omega) (fun k hk => ?_)) (fun M' h' => ⟨h'.1, fr_2 (fr_ms (by decide)) h'.2⟩))))
      rw [msc, aSn]
      split
      · rfl
      · exact h k (by omega)
theorem x_f71 : ∀ (t nn q : Nat) (M : pm_M), q + t = 21 → t < nn → (∀ k, k < q → M 71 k = 0) → ok (f_Arrays_fill2_71_L6 nn 0 q 21 M) (fun M' => (∀ k, k < 21 → M' 71 k = 0) ∧ fr [71] M M') := by
  intro t
  induction t with
  | zero =>
    intro nn q M hq hnn h
    cases nn with
    | zero => omega
    | succ nn =>
      unfold f_Arrays_fill2_71_L6
      exact ok_pos (by omega) (ok_some ⟨fun k hk => h k (by omega), fr_rf _ _⟩)
  | succ t ih =>
    intro nn q M hq hnn h
    cases nn with
    | zero => omega
    | succ nn =>
      unfold f_Arrays_fill2_71_L6
      rw [tn_nat, i_ad_eq (by omega)]
      refine ok_neg (by omega) (ok_pos (by omega) (ok_bd (ok_mono (ih nn (q + 1) _ (by omega) (by omega) (fun k hk => ?_)) (fun M' h' => ⟨h'.1, fr_2 (fr_ms (by decide)) h'.2⟩))))
      rw [msc, aSn]
      split
      · rfl
      · exact h k (by omega)
theorem x_f73 : ∀ (t nn q : Nat) (M : pm_M), q + t = 21 → t < nn → (∀ k, k < q → M 73 k = 0) → ok (f_Arrays_fill_73_L5 nn 0 q 21 M) (fun M' => (∀ k, k < 21 → M' 73 k = 0) ∧ fr [73] M M') := by
  intro t
  induction t with
  | zero =>
    intro nn q M hq hnn h
    cases nn with
    | zero => omega
    | succ nn =>
      unfold f_Arrays_fill_73_L5
      exact ok_pos (by omega) (ok_some ⟨fun k hk => h k (by omega), fr_rf _ _⟩)
  | succ t ih =>
    intro nn q M hq hnn h
    cases nn with
    | zero => omega
    | succ nn =>
      unfold f_Arrays_fill_73_L5
      rw [tn_nat, i_ad_eq (by omega)]
      refine ok_neg (by omega) (ok_pos (by omega) (ok_bd (ok_mono (ih nn (q + 1) _ (by omega) (by omega) (fun k hk => ?_)) (fun M' h' => ⟨h'.1, fr_2 (fr_ms (by decide)) h'.2⟩))))
      rw [msc, aSn]
      split
      · rfl
      · exact h k (by omega)
theorem x_s49 (hA : WF A) (hP : A 0 = P) (hn : n ≤ 20) (hPn : P ≤ n) (hCB : CB n P C) : ∀ (t nn row : Nat) (M : pm_M), row + t = P + 1 → 1 ≤ row → t < nn → CX 24 36 1 A M → HM n P row C M → ok (f_Placing_solve_L49 nn row M) (fun M' => HM n P (P + 1) C M' ∧ fr [70, 71, 72, 73, 74, 75] M M') := by
  have w0 := hA.1
  intro t
  induction t with
  | zero =>
    intro nn row M hr h1 hnn hC h
    cases nn with
    | zero => omega
    | succ nn =>
      unfold f_Placing_solve_L49 f_Told_plinths
      rw [hC.1.1.1, hP]
      rw [show row = P + 1 by omega] at h ⊢
      exact ok_be rfl (ok_pos (by omega) (ok_some ⟨h, fr_rf _ _⟩))
  | succ t ih =>
    intro nn row M hr h1 hnn hC h
    cases nn with
    | zero => omega
    | succ nn =>
      unfold f_Placing_solve_L49 f_Told_plinths
      rw [hC.1.1.1, hP]
      refine ok_be rfl (ok_neg (by omega) (ok_bind (x_match hn (by omega) (by omega) hCB (by omega) h) (fun M1 g => ?_)))
      rw [i_ad_eq (by omega)]
      exact ok_mono (ih nn (row + 1) M1 (by omega) (by omega) (by omega) (CX_fr g.2 (by decide) hC) g.1) (fun M' h' => ⟨h'.1, fr_2 g.2 h'.2⟩)
/-- sums by columns are sums by rows -/
theorem sum_one (m : Nat → Nat) (K : Nat) (x : Int) : ∀ P, (∀ r, r < P → m r = K → ∀ r', r' < P → m r' = K → r = r') → (smv P (fun r => if m r = K then x else 0) = 0 ∧ ∀ r, r < P → m r ≠ K) ∨ (smv P (fun r => if m r = K then x else 0) = x ∧ ∃ r, r < P ∧ m r = K)
  | 0, _ => Or.inl ⟨rfl, fun r hr => by omega⟩
  | P + 1, h => by
    rw [smv]
    rcases sum_one m K x P (fun r a b r' c d => h r (by omega) b r' (by omega) d) with ⟨h1, h2⟩ | ⟨h1, r0, h2, h3⟩
    · by_cases e : m P = K
      · exact Or.inr ⟨by rw [h1, if_pos e]; omega, P, by omega, e⟩
      · refine Or.inl ⟨by rw [h1, if_neg e]; omega, fun r hr => ?_⟩
        by_cases er : r = P
        · rw [er]; exact e
        · exact h2 r (by omega)
    · have e : m P ≠ K := fun e => by have := h r0 (by omega) h3 P (by omega) e; omega
      exact Or.inr ⟨by rw [h1, if_neg e]; omega, r0, by omega, h3⟩
theorem sum_step (m : Nat → Nat) (g : Nat → Int) (q : Nat) : ∀ P, smv P (fun r => if m r ≤ q + 1 then g (m r) else 0) = smv P (fun r => if m r ≤ q then g (m r) else 0) + smv P (fun r => if m r = q + 1 then g (q + 1) else 0)
  | 0 => rfl
  | P + 1 => by
    rw [smv, smv, smv, sum_step m g q P]
    by_cases e1 : m P ≤ q
    · rw [if_pos (by omega), if_pos e1, if_neg (by omega)]; omega
    · by_cases e2 : m P = q + 1
      · rw [if_pos (by omega), if_neg e1, if_pos e2, e2]; omega
      · rw [if_neg (by omega), if_neg e1, if_neg e2]; omega
theorem sum_cols (m : Nat → Nat) (g : Nat → Int) (ro : Nat → Int) (hinj : ∀ r r', r < P → r' < P → m r = m r' → r = r') (hm : ∀ r, r < P → 1 ≤ m r) (hro : ∀ k, 1 ≤ k → k ≤ n → (ro k ≠ 0 ↔ ∃ r, r < P ∧ m r = k)) : ∀ q, q ≤ n → smv q (fun k => if ro (k + 1) = 0 then 0 else g (k + 1)) = smv P (fun r => if m r ≤ q then g (m r) else 0)
  | 0, _ => by
    have e : smv P (fun r => if m r ≤ 0 then g (m r) else 0) = smv P (fun _ => 0) := smv_congr P (fun r hr => by rw [if_neg (by have := hm r hr; omega)])
    have z := smv_b (f := fun _ => 0) (B := 0) P (fun _ _ => by omega)
    rw [e, smv]; omega
  | q + 1, hq => by
    rw [smv, sum_cols m g ro hinj hm hro q (by omega), sum_step m g q P]
    have hk := hro (q + 1) (by omega) hq
    rcases sum_one m (q + 1) (g (q + 1)) P (fun r a b r' c d => hinj r r' a c (by rw [b, d])) with ⟨h1, h2⟩ | ⟨h1, h2⟩
    · rw [h1, if_pos]
      apply Classical.byContradiction
      intro hne
      obtain ⟨r, a, b⟩ := hk.mp hne
      exact h2 r a b
    · rw [h1, if_neg (hk.mpr h2)]
theorem sum_ge (m : Nat → Nat) (v : Nat → Int) (hinj : ∀ r r', r < P → r' < P → m r = m r' → r = r') (hm : ∀ r, r < P → 1 ≤ m r) (hv : ∀ k, 1 ≤ k → k ≤ n → v k ≤ 0) : ∀ q, q ≤ n → smv q (fun k => v (k + 1)) ≤ smv P (fun r => if m r ≤ q then v (m r) else 0)
  | 0, _ => by
    have e : smv P (fun r => if m r ≤ 0 then v (m r) else 0) = smv P (fun _ => 0) := smv_congr P (fun r hr => by rw [if_neg (by have := hm r hr; omega)])
    have z := smv_b (f := fun _ => 0) (B := 0) P (fun _ _ => by omega)
    rw [e, smv]; omega
  | q + 1, hq => by
    have ih := sum_ge m v hinj hm hv q (by omega)
    rw [smv, sum_step m v q P]
    have := hv (q + 1) (by omega) hq
    rcases sum_one m (q + 1) (v (q + 1)) P (fun r a b r' c d => hinj r r' a c (by rw [b, d])) with ⟨h1, _⟩ | ⟨h1, _⟩
    · omega
    · omega
/-- the matching is a cheapest one -/
theorem HM_opt {M : pm_M} (h : HM n P (P + 1) C M) : ∃ mt : Nat → Nat, (∀ p, p < P → 1 ≤ mt p ∧ mt p ≤ n ∧ M 73 (mt p) = ((p + 1 : Nat) : Int)) ∧ (∀ p p', p < P → p' < P → mt p = mt p' → p = p') ∧ (∀ k, 1 ≤ k → k ≤ n → (M 73 k ≠ 0 ↔ ∃ p, p < P ∧ mt p = k)) ∧ ∀ m : Nat → Nat, (∀ p, p < P → 1 ≤ m p ∧ m p ≤ n) → (∀ p p', p < P → p' < P → m p = m p' → p = p') → smv P (fun p => C (p + 1) (mt p)) ≤ smv P (fun p => C (p + 1) (m p)) := by
  obtain ⟨h1, h2, h3, ⟨mt, m1, m2⟩, h5, h6, h7, h8, h9⟩ := h
  have a1 : ∀ p, p < P → 1 ≤ mt (p + 1) ∧ mt (p + 1) ≤ n ∧ M 73 (mt (p + 1)) = ((p + 1 : Nat) : Int) := fun p hp => m1 (p + 1) (by omega) (by omega)
  have a2 : ∀ p p', p < P → p' < P → mt (p + 1) = mt (p' + 1) → p = p' := fun p p' hp hp' e => by
    have x := (a1 p hp).2.2
    have y := (a1 p' hp').2.2
    rw [e, y] at x
    omega
  have a3 : ∀ k, 1 ≤ k → k ≤ n → (M 73 k ≠ 0 ↔ ∃ p, p < P ∧ mt (p + 1) = k) := fun k x y => by
    constructor
    · intro hne
      have b := h3 k x y
      refine ⟨(M 73 k).toNat - 1, by omega, ?_⟩
      rw [show (M 73 k).toNat - 1 + 1 = (M 73 k).toNat by omega]
      exact m2 k x y hne
    · rintro ⟨p, hp, e⟩
      have := (a1 p hp).2.2
      rw [e] at this
      omega
  refine ⟨fun p => mt (p + 1), a1, a2, a3, fun m hm hinj => ?_⟩
  have c1 : smv P (fun p => C (p + 1) (mt (p + 1))) = smv P (fun p => uX M (p + 1)) + smv P (fun p => vX M (mt (p + 1))) := by
    rw [← smv_add]
    refine smv_congr P (fun p hp => ?_)
    have x := a1 p hp
    have := (h6 (p + 1) (mt (p + 1)) (by omega) (by omega) x.1 x.2.1).2 x.2.2
    unfold lft at this
    omega
  have c2 : smv P (fun p => uX M (p + 1)) + smv P (fun p => vX M (m p)) ≤ smv P (fun p => C (p + 1) (m p)) := by
    rw [← smv_add]
    refine smv_mono P (fun p hp => ?_)
    have x := hm p hp
    have := (h6 (p + 1) (m p) (by omega) (by omega) x.1 x.2).1
    unfold lft at this
    omega
  have c3 := sum_cols (P := P) (n := n) (fun p => mt (p + 1)) (vX M) (M 73) a2 (fun r hr => (a1 r hr).1) a3 n (Nat.le_refl _)
  have c4 := sum_ge (P := P) (n := n) m (vX M) hinj (fun r hr => (hm r hr).1) (fun k x y => (h7 k x y).1) n (Nat.le_refl _)
  have c5 : smv n (fun k => if M 73 (k + 1) = 0 then 0 else vX M (k + 1)) = smv n (fun k => vX M (k + 1)) := smv_congr n (fun k hk => by
    by_cases e : M 73 (k + 1) = 0
    · rw [if_pos e, (h7 (k + 1) (by omega) (by omega)).2.1 e]
    · rw [if_neg e])
  have c6 : smv P (fun r => if mt (r + 1) ≤ n then vX M (mt (r + 1)) else 0) = smv P (fun p => vX M (mt (p + 1))) := smv_congr P (fun r hr => by rw [if_pos (a1 r hr).2.1])
  have c7 : smv P (fun r => if m r ≤ n then vX M (m r) else 0) = smv P (fun p => vX M (m p)) := smv_congr P (fun r hr => by rw [if_pos (hm r hr).2])
  rw [c5, c6] at c3
  rw [c7] at c4
  rw [c1]
  omega
end
