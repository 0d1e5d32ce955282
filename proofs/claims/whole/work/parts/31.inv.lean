/-! WHAT CLASS AND REFERENCE HAVE IN COMMON: the pictures -/
def ok {α : Type} (T : Option α) (Q : α → Prop) : Prop := ∃ y, T = some y ∧ Q y
section
variable {α β : Type} {T A B : Option α} {Q Q1 : α → Prop}
theorem ok_some {y : α} (h : Q y) : ok (some y) Q := ⟨y, rfl, h⟩
theorem ok_bind {K : α → Option β} {Q2 : β → Prop} (h : ok T Q1) (k : ∀ y, Q1 y → ok (K y) Q2) : ok (T.bind K) Q2 := by
  obtain ⟨y, hy, hq⟩ := h
  obtain ⟨z, hz, h2⟩ := k y hq
  exact ⟨z, by rw [hy]; exact hz, h2⟩
theorem ok_be {y : α} {K : α → Option β} {Q2 : β → Prop} (h : T = some y) (k : ok (K y) Q2) : ok (T.bind K) Q2 := by rw [h]; exact k
theorem ok_bd {γ : Type} {v : γ} {K : γ → Option α} (h : ok (K v) Q) : ok (pm_bd v K) Q := h
theorem ok_ite {c : Prop} [Decidable c] (h1 : c → ok A Q) (h2 : ¬ c → ok B Q) : ok (if c then A else B) Q := by
  by_cases h : c
  · rw [if_pos h]; exact h1 h
  · rw [if_neg h]; exact h2 h
theorem ok_pos {c : Prop} [Decidable c] (hc : c) (h : ok A Q) : ok (if c then A else B) Q := by rw [if_pos hc]; exact h
theorem ok_neg {c : Prop} [Decidable c] (hc : ¬ c) (h : ok B Q) : ok (if c then A else B) Q := by rw [if_neg hc]; exact h
theorem ok_mono (h : ok T Q1) (k : ∀ y, Q1 y → Q y) : ok T Q := by
  obtain ⟨y, hy, hq⟩ := h
  exact ⟨y, hy, k y hq⟩
theorem ok_eq {y : α} (h : T = some y) (k : Q y) : ok T Q := ⟨y, h, k⟩
end
/-- all cells but these stay -/
def fr (S : List Nat) (M M' : pm_M) : Prop := ∀ c, c ∉ S → M' c = M c
theorem fr_rf (S : List Nat) (M : pm_M) : fr S M M := fun _ _ => rfl
theorem fr_tr {S S1 S2 : List Nat} {M M1 M2 : pm_M} (h1 : fr S1 M M1) (h2 : fr S2 M1 M2) (s1 : ∀ c ∈ S1, c ∈ S) (s2 : ∀ c ∈ S2, c ∈ S) : fr S M M2 := fun c hc => (h2 c fun z => hc (s2 c z)).trans (h1 c fun z => hc (s1 c z))
theorem fr_mo {S S1 : List Nat} {M M1 : pm_M} (h1 : fr S1 M M1) (s1 : ∀ c ∈ S1, c ∈ S) : fr S M M1 := fun c hc => h1 c fun z => hc (s1 c z)
theorem fr_ms {S : List Nat} {M : pm_M} {c i : Nat} {x : Int} (h : c ∈ S) : fr S M (pm_ms M c i x) := fun a ha => pm_ms_ne (fun z => ha (z ▸ h))
theorem fr_cp {S : List Nat} {M : pm_M} {a d sp dp n : Nat} (h : d ∈ S) : fr S M (pm_cp M a d sp dp n) := fun c hc => by
  have hne : c ≠ d := fun z => hc (z ▸ h)
  unfold pm_cp
  rw [if_neg hne]
def aS (A : Nat → Int) (k : Nat) (v : Int) : Nat → Int := fun i => if i = k then v else A i
theorem msn (M : pm_M) (a i : Nat) (x : Int) (c : Nat) : pm_ms M a i x c = if c = a then aS (M a) i x else M c := rfl
theorem aSn (A : Nat → Int) (k : Nat) (v : Int) (i : Nat) : aS A k v i = if i = k then v else A i := rfl
theorem msc (M : pm_M) (a i : Nat) (x : Int) : pm_ms M a i x a = aS (M a) i x := by rw [msn, if_pos rfl]
theorem cpn (M : pm_M) (a d sp dp n c : Nat) : pm_cp M a d sp dp n c = if c = d then (fun k => if dp ≤ k ∧ k < dp + n then M a (sp + (k - dp)) else M d k) else M c := rfl
theorem ob {α β : Type} (a : α) (f : α → Option β) : (some a).bind f = f a := rfl
theorem ot {α : Type} (a : α) (P : α → Prop) : (∃ y, some a = some y ∧ P y) ↔ P a := ⟨fun ⟨y, h, p⟩ => by cases h; exact p, fun p => ⟨a, rfl, p⟩⟩
-- abstract functions of the reference's row
def a_pl (A : Nat → Int) (x : Int) : Prop := 0 ≤ x ∧ x < A 0
def a_hd (A : Nat → Int) (x : Int) : Prop := 0 ≤ x ∧ x < A 1
def a_mi (A : Nat → Int) (p q : Nat) : Int := i_ab (A (10 + 4 * p) - A (10 + 4 * q)) + i_ab (A (11 + 4 * p) - A (11 + 4 * q))
/-- how many of the plinths below n are close to p -/
def a_cl (A : Nat → Int) (p : Nat) : Nat → Int
  | 0 => 0
  | n + 1 => a_cl A p n + if n ≠ p ∧ a_mi A p n ≤ 10 then 1 else 0
/-- a row of a moment that can be -/
def rW (P H : Int) (r : Nat → Int) : Prop :=
  (∀ p, p < 8 → -1 ≤ r p ∧ r p < H ∧ (P ≤ (p : Int) → r p = -1)) ∧ (∀ p q, p < 8 → q < 8 → p ≠ q → r p ≠ -1 → r p ≠ r q) ∧
  (∀ p, p < 8 → -1 ≤ r (8 + p) ∧ r (8 + p) ≤ 11) ∧ (∀ h, h < 12 → 0 ≤ r (16 + h) ∧ r (16 + h) ≤ 999 * r 29 ∧ (H ≤ (h : Int) → r (16 + h) = 0)) ∧
  (0 ≤ r 28 ∧ r 28 ≤ 7992 * r 29) ∧ (0 ≤ r 29 ∧ r 29 ≤ 999) ∧ ∀ k, k < 156 → 0 ≤ r (30 + k) ∧ r (30 + k) ≤ r 29
def a_row (A : Nat → Int) : Nat → Int := fun i => A (70 + i)
def a_stp (A : Nat → Int) (j : Nat) : Nat → Int := fun i => A (292 + 186 * j + i)
def WF (A : Nat → Int) : Prop :=
  (0 ≤ A 0 ∧ A 0 ≤ 8) ∧ (0 ≤ A 1 ∧ A 1 ≤ 12) ∧ (0 ≤ A 2 ∧ A 2 ≤ 4) ∧ (-1 ≤ A 3 ∧ A 3 < A 2) ∧ (0 ≤ A 4 ∧ A 4 ≤ 20) ∧ (0 ≤ A 5 ∧ A 5 ≤ 12) ∧
  (∀ p, p < 8 → (0 ≤ A (10 + 4 * p) ∧ A (10 + 4 * p) ≤ 99) ∧ (0 ≤ A (11 + 4 * p) ∧ A (11 + 4 * p) ≤ 99) ∧ (0 ≤ A (12 + 4 * p) ∧ A (12 + 4 * p) ≤ 9) ∧ (0 ≤ A (13 + 4 * p) ∧ A (13 + 4 * p) ≤ 9)) ∧
  (∀ h, h < 12 → (0 ≤ A (42 + 2 * h) ∧ A (42 + 2 * h) ≤ 9) ∧ (0 ≤ A (43 + 2 * h) ∧ A (43 + 2 * h) ≤ 3)) ∧
  (∀ k : Nat, (k : Int) < A 5 → (1 ≤ A (256 + 3 * k) ∧ A (256 + 3 * k) ≤ 8) ∧ (0 ≤ A (257 + 3 * k) ∧ A (257 + 3 * k) < A 0) ∧ (-1 ≤ A (258 + 3 * k) ∧ A (258 + 3 * k) ≤ 3)) ∧
  rW (A 0) (A 1) (a_row A) ∧ ∀ j : Nat, (j : Int) < A 4 → rW (A 0) (A 1) (a_stp A j)
/-- the class's pictures: what was told, the row, the steps -/
def rT (t : Nat) (A : Nat → Int) (M : pm_M) : Prop :=
  (M t 10 = A 0 ∧ M t 11 = A 1 ∧ M t 12 = A 5 ∧ M t 13 = A 2 ∧ M t 14 = A 3) ∧
  (∀ p, p < 8 → M (t + 1) p = A (10 + 4 * p) ∧ M (t + 2) p = A (11 + 4 * p) ∧ M (t + 3) p = A (12 + 4 * p) ∧ M (t + 4) p = A (13 + 4 * p)) ∧
  (∀ p : Nat, (p : Int) < A 0 → M (t + 5) p = a_cl A p (A 0).toNat) ∧
  (∀ h, h < 12 → M (t + 6) h = A (42 + 2 * h) ∧ M (t + 7) h = A (43 + 2 * h)) ∧
  (∀ k, k < 12 → M (t + 8) k = A (256 + 3 * k) ∧ M (t + 9) k = A (257 + 3 * k) ∧ M (t + 10) k = A (258 + 3 * k))
def rR (r : Nat) (A : Nat → Int) (M : pm_M) : Prop := ∀ i, i < 186 → M r i = A (70 + i)
def rS (s : Nat) (A : Nat → Int) (M : pm_M) : Prop :=
  (0 ≤ M s 1 ∧ M s 1 < 20) ∧ M s 2 = A 4 ∧ ∀ j : Nat, (j : Int) < A 4 → ∀ i, i < 186 → M (s + 1) (186 * ((((M s 1).toNat + 20 - (A 4).toNat + j) % 20)) + i) = A (292 + 186 * j + i)
def CX (t r s : Nat) (A : Nat → Int) (M : pm_M) : Prop := rT t A M ∧ rR r A M ∧ rS s A M
theorem rT_congr {t : Nat} {A : Nat → Int} {M M' : pm_M} (h : ∀ k, k ≤ 10 → M' (t + k) = M (t + k)) (H : rT t A M) : rT t A M' := by
  unfold rT at H ⊢
  rw [show M' t = M t from h 0 (by omega), h 1 (by omega), h 2 (by omega), h 3 (by omega), h 4 (by omega), h 5 (by omega), h 6 (by omega), h 7 (by omega), h 8 (by omega), h 9 (by omega), h 10 (by omega)]
  exact H
theorem rR_congr {r : Nat} {A : Nat → Int} {M M' : pm_M} (h : M' r = M r) (H : rR r A M) : rR r A M' := by
  unfold rR at H ⊢
  rw [h]; exact H
theorem rS_congr {s : Nat} {A : Nat → Int} {M M' : pm_M} (h : M' s = M s) (h1 : M' (s + 1) = M (s + 1)) (H : rS s A M) : rS s A M' := by
  unfold rS at H ⊢
  rw [h, h1]; exact H
-- the step that is kept
def kS (A : Nat → Int) : Nat → Int := fun k =>
  if k = 4 then (if A 4 = 20 then 20 else A 4 + 1)
  else if A 4 = 20 then (if 3826 ≤ k ∧ k < 4012 then A (70 + (k - 3826)) else if 292 ≤ k ∧ k < 3826 then A (k + 186) else A k)
  else if 292 + 186 * (A 4).toNat ≤ k ∧ k < 292 + 186 * (A 4).toNat + 186 then A (70 + (k - (292 + 186 * (A 4).toNat))) else A k
theorem kS_lo {A : Nat → Int} {k : Nat} (h : k ≠ 4) (h2 : k < 292) : kS A k = A k := by
  unfold kS
  rw [if_neg h]
  by_cases h20 : A 4 = 20
  · rw [if_pos h20, if_neg (by omega), if_neg (by omega)]
  · rw [if_neg h20, if_neg (by omega)]
theorem kS_4 (A : Nat → Int) : kS A 4 = if A 4 = 20 then 20 else A 4 + 1 := by unfold kS; rw [if_pos rfl]
theorem kS_last {A : Nat → Int} (h0 : 0 ≤ A 4 ∧ A 4 ≤ 20) {i : Nat} (hi : i < 186) : kS A (292 + 186 * ((kS A 4).toNat - 1) + i) = A (70 + i) := by
  rw [kS_4]
  unfold kS
  by_cases h20 : A 4 = 20
  · rw [if_pos h20, show Int.toNat 20 = 20 from rfl, if_neg (by omega), if_pos h20, if_pos (by omega)]
    exact congrArg A (by omega)
  · rw [if_neg h20, show (A 4 + 1).toNat - 1 = (A 4).toNat by omega, if_neg (by omega), if_neg h20, if_pos (by omega)]
    exact congrArg A (by omega)
theorem kS_old {A : Nat → Int} (h0 : 0 ≤ A 4 ∧ A 4 ≤ 20) {i j : Nat} (hi : i < 186) (hj : j + 1 < (kS A 4).toNat) : kS A (292 + 186 * j + i) = A (292 + 186 * (if A 4 = 20 then j + 1 else j) + i) := by
  rw [kS_4] at hj
  unfold kS
  by_cases h20 : A 4 = 20
  · rw [if_pos h20, show Int.toNat 20 = 20 from rfl] at hj
    rw [if_neg (by omega), if_pos h20, if_pos h20, if_neg (by omega), if_pos (by omega)]
    exact congrArg A (by omega)
  · rw [if_neg h20] at hj
    rw [if_neg (by omega), if_neg h20, if_neg h20, if_neg (by omega)]
theorem rW_congr {P H : Int} {r r' : Nat → Int} (h : ∀ i, i < 186 → r' i = r i) (W : rW P H r) : rW P H r' := by
  obtain ⟨w1, w2, w3, w4, w5, w6, w7⟩ := W
  refine ⟨fun p hp => ?_, fun p q hp hq => ?_, fun p hp => ?_, fun p hp => ?_, ?_, ?_, fun p hp => ?_⟩
  · rw [h p (by omega)]; exact w1 p hp
  · rw [h p (by omega), h q (by omega)]; exact w2 p q hp hq
  · rw [h (8 + p) (by omega)]; exact w3 p hp
  · rw [h (16 + p) (by omega), h 29 (by omega)]; exact w4 p hp
  · rw [h 28 (by omega), h 29 (by omega)]; exact w5
  · rw [h 29 (by omega)]; exact w6
  · rw [h (30 + p) (by omega), h 29 (by omega)]; exact w7 p hp
theorem WF_kS {A : Nat → Int} (h : WF A) : WF (kS A) := by
  obtain ⟨w0, w1, w2, w3, w4, w5, w6, w7, w8, w9, w10⟩ := h
  have e : ∀ k, k ≠ 4 → k < 292 → kS A k = A k := fun k h1 h2 => kS_lo h1 h2
  have e4 := kS_4 A
  refine ⟨by rw [e 0 (by omega) (by omega)]; exact w0, by rw [e 1 (by omega) (by omega)]; exact w1, by rw [e 2 (by omega) (by omega)]; exact w2, by rw [e 2 (by omega) (by omega), e 3 (by omega) (by omega)]; exact w3, ?_, by rw [e 5 (by omega) (by omega)]; exact w5, fun p hp => ?_, fun p hp => ?_, fun k hk => ?_, ?_, fun j hj => ?_⟩
  · rw [e4]; split <;> omega
  · rw [e _ (by omega) (by omega), e _ (by omega) (by omega), e _ (by omega) (by omega), e _ (by omega) (by omega)]; exact w6 p hp
  · rw [e _ (by omega) (by omega), e _ (by omega) (by omega)]; exact w7 p hp
  · rw [e 5 (by omega) (by omega)] at hk
    rw [e (256 + 3 * k) (by omega) (by omega), e (257 + 3 * k) (by omega) (by omega), e (258 + 3 * k) (by omega) (by omega), e 0 (by omega) (by omega)]; exact w8 k hk
  · rw [e 0 (by omega) (by omega), e 1 (by omega) (by omega)]
    exact rW_congr (fun i hi => e _ (by omega) (by omega)) w9
  · rw [e 0 (by omega) (by omega), e 1 (by omega) (by omega)]
    have hle : 0 ≤ kS A 4 ∧ kS A 4 ≤ 20 := by rw [e4]; split <;> omega
    by_cases hl : j + 1 = (kS A 4).toNat
    · refine rW_congr (r := a_row A) (fun i hi => ?_) w9
      have := kS_last w4 hi
      rw [show (kS A 4).toNat - 1 = j by omega] at this
      exact this
    · refine rW_congr (r := a_stp A (if A 4 = 20 then j + 1 else j)) (fun i hi => kS_old w4 hi (by omega)) (w10 _ ?_)
      rw [e4] at hj hl
      by_cases h20 : A 4 = 20
      · rw [if_pos h20] at hj hl ⊢; omega
      · rw [if_neg h20] at hj hl ⊢; omega
