theorem prs_m : ∀ b, b < 5 → ∀ a, a < b → (a, b) ∈ prs := by decide
theorem w_num {s : Nat} (h : s < 120) : nmb (wr s) = s ∧ (wr s).length = 5 ∧ ∀ x ∈ wr s, x < 5 := by
  have h1 := (List.all_eq_true.mp ck1_ok) s (List.mem_range.mpr h)
  simp only [Bool.and_eq_true, beq_iff_eq, List.all_eq_true, decide_eq_true_eq] at h1
  exact ⟨h1.1.1, h1.1.2, h1.2⟩
theorem w_T {s a b : Nat} (h : s < 120) (hb : b < 5) (ha : a < b) : tT a b s < 120 ∧ wr (tT a b s) = swl a b (wr s) ∧ tT a b (tT a b s) = s := by
  have h1 := (List.all_eq_true.mp ck2_ok) s (List.mem_range.mpr h)
  have h2 := (List.all_eq_true.mp h1) (a, b) (prs_m b hb a ha)
  simp only [Bool.and_eq_true, beq_iff_eq, decide_eq_true_eq] at h2
  exact ⟨h2.1.1, h2.1.2, h2.2⟩
theorem w_inj {s t : Nat} (hs : s < 120) (ht : t < 120) (h : wr s = wr t) : s = t := by rw [← (w_num hs).1, ← (w_num ht).1, h]
theorem l5 {l : List Nat} (h : l.length = 5) : ∃ x0 x1 x2 x3 x4, l = [x0, x1, x2, x3, x4] := by
  match l, h with
  | [x0, x1, x2, x3, x4], _ => exact ⟨x0, x1, x2, x3, x4, rfl⟩
def sw1 (a b j : Nat) : Nat := if j = a then b else if j = b then a else j
theorem swl3 (x0 x1 x2 x3 x4 : Nat) : ∀ h, h < 5 → ∀ a, a < h → ∀ j, j < h → a ≠ j → swl j h (swl a h [x0, x1, x2, x3, x4]) = swl (if a < j then a else j) (if a < j then j else a) (swl j h [x0, x1, x2, x3, x4]) := by
  intro h hh a ha j hj hne
  rcases (show h = 2 ∨ h = 3 ∨ h = 4 by omega) with rfl | rfl | rfl
  all_goals rcases (show a = 0 ∨ a = 1 ∨ a = 2 ∨ a = 3 by omega) with rfl | rfl | rfl | rfl
  all_goals rcases (show j = 0 ∨ j = 1 ∨ j = 2 ∨ j = 3 by omega) with rfl | rfl | rfl | rfl
  all_goals first | (exfalso; omega) | rfl
theorem swl4 (x0 x1 x2 x3 x4 : Nat) : ∀ h, h < 5 → ∀ b, b < h → ∀ a, a < b → ∀ j, j < h → swl a b (swl j h [x0, x1, x2, x3, x4]) = swl (sw1 a b j) h (swl a b [x0, x1, x2, x3, x4]) := by
  intro h hh b hb a ha j hj
  rcases (show h = 2 ∨ h = 3 ∨ h = 4 by omega) with rfl | rfl | rfl
  all_goals rcases (show b = 1 ∨ b = 2 ∨ b = 3 by omega) with rfl | rfl | rfl
  all_goals rcases (show a = 0 ∨ a = 1 ∨ a = 2 by omega) with rfl | rfl | rfl
  all_goals rcases (show j = 0 ∨ j = 1 ∨ j = 2 ∨ j = 3 by omega) with rfl | rfl | rfl | rfl
  all_goals first | (exfalso; omega) | rfl
theorem sw1_lt {a b j h : Nat} (hb : b < h) (ha : a < b) (hj : j < h) : sw1 a b j < h := by
  unfold sw1
  split
  · exact hb
  · split
    · omega
    · exact hj
/-- (a h)(j h) = (j h)(a j) -/
theorem T_3 {s h a j : Nat} (hs : s < 120) (hh : h < 5) (ha : a < h) (hj : j < h) (hne : a ≠ j) : tT j h (tT a h s) = tT (if a < j then a else j) (if a < j then j else a) (tT j h s) := by
  obtain ⟨a1, a2, _⟩ := w_T hs hh ha
  obtain ⟨b1, b2, _⟩ := w_T a1 hh hj
  obtain ⟨c1, c2, _⟩ := w_T hs hh hj
  have hlt : (if a < j then a else j) < (if a < j then j else a) ∧ (if a < j then j else a) < 5 := by split <;> omega
  obtain ⟨d1, d2, _⟩ := w_T c1 hlt.2 hlt.1
  refine w_inj b1 d1 ?_
  obtain ⟨x0, x1, x2, x3, x4, e⟩ := l5 (w_num hs).2.1
  rw [b2, a2, d2, c2, e]
  exact swl3 x0 x1 x2 x3 x4 h hh a ha j hj hne
/-- what is below h goes past h -/
theorem T_4 {s h a b j : Nat} (hs : s < 120) (hh : h < 5) (hb : b < h) (ha : a < b) (hj : j < h) : tT a b (tT j h s) = tT (sw1 a b j) h (tT a b s) := by
  obtain ⟨a1, a2, _⟩ := w_T hs hh hj
  obtain ⟨b1, b2, _⟩ := w_T a1 (show b < 5 by omega) ha
  obtain ⟨c1, c2, _⟩ := w_T hs (show b < 5 by omega) ha
  obtain ⟨d1, d2, _⟩ := w_T c1 hh (sw1_lt hb ha hj)
  refine w_inj b1 d1 ?_
  obtain ⟨x0, x1, x2, x3, x4, e⟩ := l5 (w_num hs).2.1
  rw [b2, a2, d2, c2, e]
  exact swl4 x0 x1 x2 x3 x4 h hh b hb a ha j hj
/-- an order of the first P plinths alone -/
def inS (P s : Nat) : Prop := s < 120 ∧ ∀ p, P ≤ p → p < 5 → (wr s).getD p 0 = p
theorem swl_o {l : List Nat} {a b p : Nat} (h1 : p ≠ a) (h2 : p ≠ b) : (swl a b l).getD p 0 = l.getD p 0 := by
  unfold swl
  simp only [List.getD_eq_getElem?_getD]
  rw [List.getElem?_set_ne (Ne.symm h2), List.getElem?_set_ne (Ne.symm h1)]
theorem inS_T {P s a b : Nat} (hP : P ≤ 5) (h : inS P s) (hb : b < P) (ha : a < b) : inS P (tT a b s) := by
  obtain ⟨h1, h2, _⟩ := w_T h.1 (show b < 5 by omega) ha
  refine ⟨h1, fun p hp hp5 => ?_⟩
  rw [h2, swl_o (by omega) (by omega)]
  exact h.2 p hp hp5
theorem inS_b {P s : Nat} (h : inS P s) : fxP P s = true := by
  unfold fxP
  rw [List.all_eq_true]
  intro p hp
  rw [List.mem_range] at hp
  by_cases e : p < P
  · simp [e]
  · rw [h.2 p (by omega) hp]; simp
theorem inS_p {P s : Nat} (hP : P ≤ 5) (h : inS P s) : (pth s).foldl (fun t q => tT q.1 q.2 t) 119 = s ∧ ∀ q ∈ pth s, q.1 < q.2 ∧ q.2 < P := by
  have h1 := (List.all_eq_true.mp ck5_ok) s (List.mem_range.mpr h.1)
  simp only [Bool.and_eq_true, beq_iff_eq] at h1
  refine ⟨h1.1, ?_⟩
  have h2 := (List.all_eq_true.mp h1.2) P (List.mem_range.mpr (by omega))
  rw [inS_b h] at h2
  simp only [Bool.not_true, Bool.false_or, List.all_eq_true, Bool.and_eq_true, decide_eq_true_eq] at h2
  exact h2
theorem inS_0 (P : Nat) : inS P 119 := ⟨by omega, fun p _ hp => by
  rw [ck7_ok]
  rcases (show p = 0 ∨ p = 1 ∨ p = 2 ∨ p = 3 ∨ p = 4 by omega) with rfl | rfl | rfl | rfl | rfl <;> rfl⟩
