/-! QUESTIONS that both sides ask -/
def pb (x n : Int) : Int := if 0 ≤ x ∧ x < n then 1 else 0
theorem pb_1 {x n : Int} (h : 0 ≤ x ∧ x < n) : pb x n = 1 := if_pos h
theorem pb_0 {x n : Int} (h : ¬ (0 ≤ x ∧ x < n)) : pb x n = 0 := if_neg h
theorem x_isPl {M : pm_M} {P : Int} (h : M 24 10 = P) (x : Int) : f_Told_isPlinth x M = some (pb x P) := by
  unfold f_Told_isPlinth pb
  rw [h]
  by_cases h1 : x < 0
  · rw [if_pos h1, if_neg (by omega)]
  · rw [if_neg h1]
    by_cases h2 : P ≤ x
    · rw [if_pos h2, if_neg (by omega)]
    · rw [if_neg h2, if_pos (by omega)]
theorem x_isHd {M : pm_M} {P : Int} (h : M 24 11 = P) (x : Int) : f_Told_isHead x M = some (pb x P) := by
  unfold f_Told_isHead pb
  rw [h]
  by_cases h1 : x < 0
  · rw [if_pos h1, if_neg (by omega)]
  · rw [if_neg h1]
    by_cases h2 : P ≤ x
    · rw [if_pos h2, if_neg (by omega)]
    · rw [if_neg h2, if_pos (by omega)]
theorem x_isTx {M : pm_M} {P : Int} (h : M 24 13 = P) (x : Int) : f_Told_isText x M = some (pb x P) := by
  unfold f_Told_isText pb
  rw [h]
  by_cases h1 : x < 0
  · rw [if_pos h1, if_neg (by omega)]
  · rw [if_neg h1]
    by_cases h2 : P ≤ x
    · rw [if_pos h2, if_neg (by omega)]
    · rw [if_neg h2, if_pos (by omega)]
theorem q_in_pb (x n : Int) (M : pm_M) (h : 0 ≤ n ∧ n ≤ 1000) : f_Q_in x 0 (i_sb n 1) M = some (pb x n) := by
  rw [f_Q_in_eq, i_sb_eq (by omega)]
  unfold pb
  by_cases h1 : 0 ≤ x ∧ x < n
  · rw [if_pos h1, if_pos (by omega)]
  · rw [if_neg h1, if_neg (by omega)]
theorem pb_01 (x n : Int) : pb x n = 0 ∨ pb x n = 1 := by
  unfold pb; split
  · exact Or.inr rfl
  · exact Or.inl rfl
theorem q_isPl {M : pm_M} {P : Int} (h : M 88 0 = P) (hP : 0 ≤ P ∧ P ≤ 8) (x : Int) : f_Q_isPlinth x M = some (pb x P) := by
  unfold f_Q_isPlinth
  rw [h, q_in_pb x P M (by omega), ob, if_pos (pb_01 _ _)]
theorem q_isHd {M : pm_M} {P : Int} (h : M 88 1 = P) (hP : 0 ≤ P ∧ P ≤ 12) (x : Int) : f_Q_isHead x M = some (pb x P) := by
  unfold f_Q_isHead
  rw [h, q_in_pb x P M (by omega), ob, if_pos (pb_01 _ _)]
/-- a decision -/
def dc (c : Prop) (y : Int) : Prop := (c ∧ y = 1) ∨ (¬ c ∧ y = 0)
theorem dc_y {c : Prop} (h : c) : dc c 1 := Or.inl ⟨h, rfl⟩
theorem dc_n {c : Prop} (h : ¬ c) : dc c 0 := Or.inr ⟨h, rfl⟩
theorem ok_pl {α : Type} {x n : Int} {K : Int → Option α} {Q : α → Prop} {T : Option Int} (h : T = some (pb x n)) (k1 : 0 ≤ x ∧ x < n → ok (K 1) Q) (k0 : ¬ (0 ≤ x ∧ x < n) → ok (K 0) Q) : ok (T.bind K) Q := by
  refine ok_be h ?_
  by_cases h1 : 0 ≤ x ∧ x < n
  · rw [pb_1 h1]; exact k1 h1
  · rw [pb_0 h1]; exact k0 h1
-- where a head stands
def pfx (r : Nat → Int) (h : Int) : Nat → Nat → Int
  | 0, _ => -1
  | k + 1, p => if r p = h then (p : Int) else pfx r h k (p + 1)
def pf (r : Nat → Int) (h : Int) : Int := pfx r h 8 0
theorem pfx_n {r : Nat → Int} {h : Int} : ∀ k p, pfx r h k p = -1 ↔ ∀ q, p ≤ q → q < p + k → r q ≠ h
  | 0, p => ⟨fun _ q h1 h2 => by omega, fun _ => rfl⟩
  | k + 1, p => by
    rw [pfx]
    by_cases e : r p = h
    · rw [if_pos e]
      exact ⟨fun z => by omega, fun z => absurd e (z p (by omega) (by omega))⟩
    · rw [if_neg e, pfx_n k (p + 1)]
      refine ⟨fun z q h1 h2 => ?_, fun z q h1 h2 => z q (by omega) (by omega)⟩
      by_cases e2 : q = p
      · rw [e2]; exact e
      · exact z q (by omega) (by omega)
theorem pf_n {r : Nat → Int} {h : Int} : pf r h = -1 ↔ ∀ q, q < 8 → r q ≠ h := by
  unfold pf
  rw [pfx_n 8 0]
  exact ⟨fun z q hq => z q (by omega) (by omega), fun z q _ hq => z q (by omega)⟩
theorem x_placeL {M : pm_M} {r : Nat → Int} (hR : ∀ i, i < 186 → M 36 i = r i) (h : Int) : ∀ k n p : Nat, p + k = 8 → k < n → ok (f_Moment_placeOf_L2 M n h p) (fun e => e = .inl (pfx r h k p) ∧ pfx r h k p ≠ -1 ∨ e = .inr () ∧ pfx r h k p = -1) := by
  intro k
  induction k with
  | zero =>
    intro n p hp hn
    cases n with
    | zero => omega
    | succ n =>
      unfold f_Moment_placeOf_L2
      exact ok_pos (by omega) (ok_some (Or.inr ⟨rfl, rfl⟩))
  | succ k ih =>
    intro n p hp hn
    cases n with
    | zero => omega
    | succ n =>
      unfold f_Moment_placeOf_L2
      refine ok_neg (by omega) (ok_pos (by omega) ?_)
      rw [tn_nat, hR p (by omega), pfx, i_ad_eq (by omega)]
      refine ok_ite (fun e => ok_some ?_) (fun e => ?_)
      · rw [if_pos e]; exact Or.inl ⟨rfl, by omega⟩
      · rw [if_neg e]; exact ih n (p + 1) (by omega) (by omega)
theorem x_place {M : pm_M} {r : Nat → Int} (hR : ∀ i, i < 186 → M 36 i = r i) (h : Int) : f_Moment_placeOf h M = some (pf r h) := by
  unfold f_Moment_placeOf
  obtain ⟨e, he, hq⟩ := x_placeL hR h 8 pm_F 0 (by omega) (by unfold pm_F; omega)
  rw [show ((0 : Nat) : Int) = 0 from rfl] at he
  rw [he]
  rcases hq with ⟨rfl, _⟩ | ⟨rfl, h2⟩
  · rfl
  · exact congrArg some h2.symm
def qfx (r : Nat → Int) (h : Int) : Nat → Nat → Int → Int
  | 0, _, f => f
  | k + 1, p, f => qfx r h k (p + 1) (if r p = h then (p : Int) else f)
theorem qfx_n {r : Nat → Int} {h : Int} : ∀ (k p : Nat) (f : Int), (∀ q, p ≤ q → q < p + k → r q ≠ h) → qfx r h k p f = f
  | 0, _, _, _ => rfl
  | k + 1, p, f, z => by
    rw [qfx, if_neg (z p (by omega) (by omega))]
    exact qfx_n k (p + 1) f (fun q h1 h2 => z q (by omega) (by omega))
theorem qfx_p {r : Nat → Int} {h : Int} (hh : h ≠ -1) (hd : ∀ p q, p < 8 → q < 8 → p ≠ q → r p ≠ -1 → r p ≠ r q) : ∀ (k p : Nat), p + k = 8 → qfx r h k p (-1) = pfx r h k p
  | 0, _, _ => rfl
  | k + 1, p, hp => by
    rw [qfx, pfx]
    by_cases e : r p = h
    · rw [if_pos e, if_pos e]
      refine qfx_n k (p + 1) _ (fun q h1 h2 z => ?_)
      exact hd p q (by omega) (by omega) (by omega) (by rw [e]; exact hh) (by rw [e, z])
    · rw [if_neg e, if_neg e]
      exact qfx_p hh hd k (p + 1) (by omega)
theorem q_placeL {M : pm_M} {A : Nat → Int} (hM : M 88 = A) (h : Int) : ∀ (k n p : Nat) (f : Int), p + k = 8 → k < n → f_Q_plinthOf_L4 M n h f p = some (qfx (a_row A) h k p f) := by
  intro k
  induction k with
  | zero =>
    intro n p f hp hn
    cases n with
    | zero => omega
    | succ n =>
      unfold f_Q_plinthOf_L4
      rw [if_pos (by omega)]; rfl
  | succ k ih =>
    intro n p f hp hn
    cases n with
    | zero => omega
    | succ n =>
      unfold f_Q_plinthOf_L4
      rw [if_neg (by omega), i_ad_eq (by omega), if_pos (by omega), show ((70 : Int) + (p : Int)).toNat = 70 + p by omega, hM, i_ad_eq (by omega), qfx]
      have e1 := ih n (p + 1) p (by omega) (by omega)
      have e2 := ih n (p + 1) f (by omega) (by omega)
      rw [show ((p + 1 : Nat) : Int) = (p : Int) + 1 by omega] at e1 e2
      by_cases e : A (70 + p) = h
      · rw [if_pos e, e1, if_pos (show a_row A p = h from e)]
      · rw [if_neg e, e2, if_neg (show ¬ a_row A p = h from e)]
theorem q_place {M : pm_M} {A : Nat → Int} (hM : M 88 = A) {h : Int} (hh : h ≠ -1) (hd : ∀ p q, p < 8 → q < 8 → p ≠ q → a_row A p ≠ -1 → a_row A p ≠ a_row A q) : f_Q_plinthOf h M = some (pf (a_row A) h) := by
  unfold f_Q_plinthOf
  have := q_placeL hM h 8 pm_F 0 (-1) (by omega) (by unfold pm_F; omega)
  rw [show ((0 : Nat) : Int) = 0 from rfl] at this
  rw [this, ob, qfx_p hh hd 8 0 (by omega)]; rfl
-- may it be
def a_cp (A : Nat → Int) (h p : Int) : Prop := (0 ≤ h ∧ h < A 1) ∧ (0 ≤ p ∧ p < A 0) ∧ a_row A p.toNat = -1 ∧ pf (a_row A) h = -1
def a_co (A : Nat → Int) (p : Int) : Prop := (0 ≤ p ∧ p < A 0) ∧ a_row A p.toNat ≠ -1
def a_cc (A : Nat → Int) (p q : Int) : Prop := (0 ≤ p ∧ p < A 0) ∧ (0 ≤ q ∧ q < A 0) ∧ p ≠ q ∧ (a_row A p.toNat ≠ -1 ∨ a_row A q.toNat ≠ -1)
section
variable {A : Nat → Int} {M : pm_M}
theorem x_headAt (hR : rR 36 A M) {p : Int} (hp : 0 ≤ p ∧ p < 186) : f_Moment_headAt p M = some (a_row A p.toNat) := by
  unfold f_Moment_headAt
  rw [if_pos hp, hR _ (by omega)]; rfl
theorem x_nameAt (hR : rR 36 A M) {p : Int} (hp : 0 ≤ p ∧ p < 8) : f_Moment_nameAt p M = some (a_row A (8 + p.toNat)) := by
  unfold f_Moment_nameAt
  rw [i_ad_eq (by omega), if_pos (by omega), show ((8 : Int) + p).toNat = 8 + p.toNat by omega, hR _ (by omega)]; rfl
theorem x_debt (hR : rR 36 A M) {p : Int} (hp : 0 ≤ p ∧ p < 12) : f_Moment_debt p M = some (a_row A (16 + p.toNat)) := by
  unfold f_Moment_debt
  rw [i_ad_eq (by omega), if_pos (by omega), show ((16 : Int) + p).toNat = 16 + p.toNat by omega, hR _ (by omega)]; rfl
theorem x_canPut (hA : WF A) (hC : CX 24 36 1 A M) (h p : Int) : ok (f_X_canPut h p M) (dc (a_cp A h p)) := by
  have w0 := hA.1
  unfold f_X_canPut
  refine ok_pl (x_isHd hC.1.1.2.1 h) (fun h1 => ok_neg (by omega) ?_) (fun h1 => ok_pos rfl (ok_some (dc_n (fun z => h1 z.1))))
  refine ok_pl (x_isPl hC.1.1.1 p) (fun h2 => ok_neg (by omega) ?_) (fun h2 => ok_pos rfl (ok_some (dc_n (fun z => h2 z.2.1))))
  refine ok_be (x_headAt hC.2.1 (by omega)) ?_
  refine ok_ite (fun h3 => ?_) (fun h3 => ok_some (dc_n (fun z => h3 z.2.2.1)))
  refine ok_be (x_place hC.2.1 h) ?_
  exact ok_ite (fun h4 => ok_some (dc_y ⟨h1, h2, h3, h4⟩)) (fun h4 => ok_some (dc_n (fun z => h4 z.2.2.2)))
theorem x_canOff (hA : WF A) (hC : CX 24 36 1 A M) (p : Int) : ok (f_X_canOff p M) (dc (a_co A p)) := by
  have w0 := hA.1
  unfold f_X_canOff
  refine ok_pl (x_isPl hC.1.1.1 p) (fun h2 => ok_neg (by omega) ?_) (fun h2 => ok_pos rfl (ok_some (dc_n (fun z => h2 z.1))))
  refine ok_be (x_headAt hC.2.1 (by omega)) ?_
  exact ok_ite (fun h3 => ok_some (dc_n (fun z => z.2 h3))) (fun h3 => ok_some (dc_y ⟨h2, h3⟩))
theorem x_canChange (hA : WF A) (hC : CX 24 36 1 A M) (p q : Int) : ok (f_X_canChange p q M) (dc (a_cc A p q)) := by
  have w0 := hA.1
  unfold f_X_canChange
  refine ok_pl (x_isPl hC.1.1.1 p) (fun h1 => ok_neg (by omega) ?_) (fun h1 => ok_pos rfl (ok_some (dc_n (fun z => h1 z.1))))
  refine ok_pl (x_isPl hC.1.1.1 q) (fun h2 => ok_neg (by omega) ?_) (fun h2 => ok_pos rfl (ok_some (dc_n (fun z => h2 z.2.1))))
  refine ok_ite (fun h3 => ok_some (dc_n (fun z => z.2.2.1 h3))) (fun h3 => ?_)
  refine ok_be (x_headAt hC.2.1 (by omega)) ?_
  refine ok_ite (fun h4 => ?_) (fun h4 => ok_some (dc_y ⟨h1, h2, h3, Or.inl h4⟩))
  refine ok_be (x_headAt hC.2.1 (by omega)) ?_
  exact ok_ite (fun h5 => ok_some (dc_n (fun z => z.2.2.2.elim (fun y => y h4) (fun y => y h5)))) (fun h5 => ok_some (dc_y ⟨h1, h2, h3, Or.inr h5⟩))
theorem tn70 {p : Int} (h : 0 ≤ p) : ((70 : Int) + p).toNat = 70 + p.toNat := by omega
theorem q_canPut (hA : WF A) (hM : M 88 = A) (h p : Int) : ok (f_Q_canPut h p M) (dc (a_cp A h p)) := by
  have w0 := hA.1
  unfold f_Q_canPut
  refine ok_pl (q_isHd (congrFun hM 1) hA.2.1 h) (fun h1 => ok_neg (by omega) ?_) (fun h1 => ok_pos rfl (ok_some (dc_n (fun z => h1 z.1))))
  refine ok_pl (q_isPl (congrFun hM 0) hA.1 p) (fun h2 => ok_neg (by omega) ?_) (fun h2 => ok_pos rfl (ok_some (dc_n (fun z => h2 z.2.1))))
  refine ok_be (q_place hM (by omega) hA.2.2.2.2.2.2.2.2.2.1.2.1) ?_
  refine ok_ite (fun h3 => ?_) (fun h3 => ok_some (dc_n (fun z => h3 z.2.2.2)))
  rw [i_ad_eq (by omega), tn70 (by omega), hM]
  refine ok_pos (by omega) ?_
  exact ok_ite (fun h4 => ok_some (dc_y ⟨h1, h2, h4, h3⟩)) (fun h4 => ok_some (dc_n (fun z => h4 z.2.2.1)))
theorem q_canChange (hA : WF A) (hM : M 88 = A) (p q : Int) : ok (f_Q_canChange p q M) (dc (a_cc A p q)) := by
  have w0 := hA.1
  unfold f_Q_canChange
  refine ok_pl (q_isPl (congrFun hM 0) hA.1 p) (fun h1 => ok_neg (by omega) ?_) (fun h1 => ok_pos rfl (ok_some (dc_n (fun z => h1 z.1))))
  refine ok_pl (q_isPl (congrFun hM 0) hA.1 q) (fun h2 => ok_neg (by omega) ?_) (fun h2 => ok_pos rfl (ok_some (dc_n (fun z => h2 z.2.1))))
  refine ok_ite (fun h3 => ok_some (dc_n (fun z => z.2.2.1 h3))) (fun h3 => ?_)
  rw [i_ad_eq (a := 70) (b := p) (by omega), i_ad_eq (a := 70) (b := q) (by omega), tn70 (p := p) (by omega), tn70 (p := q) (by omega), hM]
  refine ok_pos (by omega) ?_
  refine ok_ite (fun h4 => ok_pos (by omega) ?_) (fun h4 => ok_some (dc_y ⟨h1, h2, h3, Or.inl h4⟩))
  exact ok_ite (fun h5 => ok_some (dc_n (fun z => z.2.2.2.elim (fun y => y h4) (fun y => y h5)))) (fun h5 => ok_some (dc_y ⟨h1, h2, h3, Or.inr h5⟩))
end
