/-! THE ROW: what a step can change -/
theorem a_cl_congr {A A' : Nat → Int} {p : Nat} (hp : p < 8) (h : ∀ k, 10 ≤ k → k < 42 → A' k = A k) : ∀ m, m ≤ 8 → a_cl A' p m = a_cl A p m := by
  intro m
  induction m with
  | zero => intro _; rfl
  | succ m ih =>
    intro hm
    unfold a_cl a_mi
    rw [ih (by omega), h (10 + 4 * p) (by omega) (by omega), h (11 + 4 * p) (by omega) (by omega), h (10 + 4 * m) (by omega) (by omega), h (11 + 4 * m) (by omega) (by omega)]
theorem rT_A {t : Nat} {A A' : Nat → Int} {M : pm_M} (w : A 0 ≤ 8) (h : ∀ k, k ≠ 4 → k < 70 ∨ (256 ≤ k ∧ k < 292) → A' k = A k) (H : rT t A M) : rT t A' M := by
  obtain ⟨⟨t1, t2, t3, t4, t5⟩, t6, t7, t8, t9⟩ := H
  refine ⟨⟨by rw [h 0 (by omega) (by omega)]; exact t1, by rw [h 1 (by omega) (by omega)]; exact t2, by rw [h 5 (by omega) (by omega)]; exact t3, by rw [h 2 (by omega) (by omega)]; exact t4, by rw [h 3 (by omega) (by omega)]; exact t5⟩, fun p hp => ?_, fun p hp => ?_, fun p hp => ?_, fun p hp => ?_⟩
  · rw [h (10 + 4 * p) (by omega) (by omega), h (11 + 4 * p) (by omega) (by omega), h (12 + 4 * p) (by omega) (by omega), h (13 + 4 * p) (by omega) (by omega)]; exact t6 p hp
  · rw [h 0 (by omega) (by omega)] at hp ⊢
    rw [t7 p hp, a_cl_congr (by omega) (fun k h1 h2 => h k (by omega) (by omega)) _ (by omega)]
  · rw [h (42 + 2 * p) (by omega) (by omega), h (43 + 2 * p) (by omega) (by omega)]; exact t8 p hp
  · rw [h (256 + 3 * p) (by omega) (by omega), h (257 + 3 * p) (by omega) (by omega), h (258 + 3 * p) (by omega) (by omega)]; exact t9 p hp
theorem rS_A {s : Nat} {A A' : Nat → Int} {M : pm_M} (h4 : A' 4 = A 4) (h : ∀ k, 292 ≤ k → A' k = A k) (H : rS s A M) : rS s A' M := by
  obtain ⟨h1, h2, h3⟩ := H
  refine ⟨h1, by rw [h4]; exact h2, fun j hj i hi => ?_⟩
  rw [h4] at hj ⊢
  rw [h _ (by omega)]; exact h3 j hj i hi
def rU (A r : Nat → Int) : Nat → Int := fun k => if 70 ≤ k ∧ k < 256 then r (k - 70) else A k
theorem rU_o {A r : Nat → Int} {k : Nat} (h : k < 70 ∨ 256 ≤ k) : rU A r k = A k := by unfold rU; rw [if_neg (by omega)]
theorem rU_i {A r : Nat → Int} {i : Nat} (h : i < 186) : rU A r (70 + i) = r i := by unfold rU; rw [if_pos (by omega)]; exact congrArg r (by omega)
theorem rU_aS {A r : Nat → Int} {i : Nat} {v : Int} (h : i < 186) : aS (rU A r) (70 + i) v = rU A (aS r i v) := by
  funext k
  unfold aS rU
  dsimp only
  by_cases h1 : k = 70 + i
  · rw [if_pos h1, if_pos (by omega), if_pos (by omega)]
  · rw [if_neg h1]
    by_cases h2 : 70 ≤ k ∧ k < 256
    · rw [if_pos h2, if_pos h2, if_neg (by omega)]
    · rw [if_neg h2, if_neg h2]
theorem rU_self (A : Nat → Int) : rU A (a_row A) = A := by
  funext k
  unfold rU a_row
  by_cases h2 : 70 ≤ k ∧ k < 256
  · rw [if_pos h2]; exact congrArg A (by omega)
  · rw [if_neg h2]
theorem rU_rU (A r r' : Nat → Int) : rU (rU A r) r' = rU A r' := by
  funext k
  unfold rU
  by_cases h2 : 70 ≤ k ∧ k < 256
  · rw [if_pos h2, if_pos h2]
  · rw [if_neg h2, if_neg h2, if_neg h2]
theorem kS_row (A : Nat → Int) {i : Nat} (hi : i < 186) : a_row (kS A) i = a_row A i := kS_lo (by omega) (by omega)
theorem kS_rU (A : Nat → Int) : rU (kS A) (a_row A) = kS A := by
  funext k
  unfold rU a_row
  by_cases h2 : 70 ≤ k ∧ k < 256
  · rw [if_pos h2, kS_lo (by omega) (by omega)]; exact congrArg A (by omega)
  · rw [if_neg h2]
theorem WF_A {A A' : Nat → Int} (h : ∀ k, k < 70 ∨ 256 ≤ k → A' k = A k) (hr : rW (A 0) (A 1) (a_row A')) (H : WF A) : WF A' := by
  obtain ⟨w0, w1, w2, w3, w4, w5, w6, w7, w8, w9, w10⟩ := H
  have e : ∀ k, k < 70 ∨ 256 ≤ k → A' k = A k := h
  refine ⟨by rw [e 0 (by omega)]; exact w0, by rw [e 1 (by omega)]; exact w1, by rw [e 2 (by omega)]; exact w2, by rw [e 2 (by omega), e 3 (by omega)]; exact w3, by rw [e 4 (by omega)]; exact w4, by rw [e 5 (by omega)]; exact w5, fun p hp => ?_, fun p hp => ?_, fun k hk => ?_, ?_, fun j hj => ?_⟩
  · rw [e (10 + 4 * p) (by omega), e (11 + 4 * p) (by omega), e (12 + 4 * p) (by omega), e (13 + 4 * p) (by omega)]; exact w6 p hp
  · rw [e (42 + 2 * p) (by omega), e (43 + 2 * p) (by omega)]; exact w7 p hp
  · rw [e 5 (by omega)] at hk
    rw [e (256 + 3 * k) (by omega), e (257 + 3 * k) (by omega), e (258 + 3 * k) (by omega), e 0 (by omega)]; exact w8 k hk
  · rw [e 0 (by omega), e 1 (by omega)]; exact hr
  · rw [e 4 (by omega)] at hj
    rw [e 0 (by omega), e 1 (by omega)]
    exact rW_congr (fun i hi => e _ (by omega)) (w10 j hj)
theorem WF_rU {A r : Nat → Int} (hr : rW (A 0) (A 1) r) (H : WF A) : WF (rU A r) := WF_A (fun _ h => rU_o h) (rW_congr (fun _ hi => rU_i hi) hr) H
theorem x_row {A r : Nat → Int} {M M' : pm_M} (w : A 0 ≤ 8) (H : CX 24 36 1 A M) (h1 : ∀ i, i < 186 → M' 36 i = r i) (h2 : fr [36] M M') : CX 24 36 1 (rU A r) M' := by
  obtain ⟨hT, hR, hS⟩ := H
  refine ⟨rT_congr (fun k hk => h2 (24 + k) (by simp; omega)) (rT_A w (fun k _ h => rU_o (by omega)) hT), fun i hi => ?_, rS_congr (h2 1 (by decide)) (h2 2 (by decide)) (rS_A (rU_o (by omega)) (fun k h => rU_o (by omega)) hS)⟩
  rw [rU_i hi]; exact h1 i hi
-- what may stand
section
variable {P H : Int} {r : Nat → Int}
theorem rW_put {h p : Nat} (w : rW P H r) (hp : p < 8) (hP : (p : Int) < P) (hH : (h : Int) < H) (hn : ∀ q, q < 8 → r q ≠ h) : rW P H (aS r p h) := by
  obtain ⟨w1, w2, w3, w4, w5, w6, w7⟩ := w
  refine ⟨fun q hq => ?_, fun q s hq hs hne => ?_, fun q hq => ?_, fun q hq => ?_, ?_, ?_, fun q hq => ?_⟩
  · rw [aSn]
    by_cases e : q = p
    · rw [if_pos e]; omega
    · rw [if_neg e]; exact w1 q hq
  · rw [aSn, aSn]
    have h1 := hn q hq
    have h2 := hn s hs
    have h3 := w2 q s hq hs hne
    by_cases e : q = p
    · rw [if_pos e, if_neg (by omega)]; intro _ z; exact h2 z.symm
    · rw [if_neg e]
      by_cases e2 : s = p
      · rw [if_pos e2]; intro _; exact h1
      · rw [if_neg e2]; exact h3
  · rw [aSn, if_neg (by omega)]; exact w3 q hq
  · rw [aSn, if_neg (by omega), aSn, if_neg (by omega)]; exact w4 q hq
  · rw [aSn, if_neg (by omega), aSn, if_neg (by omega)]; exact w5
  · rw [aSn, if_neg (by omega)]; exact w6
  · rw [aSn, if_neg (by omega), aSn, if_neg (by omega)]; exact w7 q hq
theorem rW_off {p : Nat} (w : rW P H r) (hp : p < 8) (hH : 0 ≤ H) : rW P H (aS r p (-1)) := by
  obtain ⟨w1, w2, w3, w4, w5, w6, w7⟩ := w
  refine ⟨fun q hq => ?_, fun q s hq hs hne => ?_, fun q hq => ?_, fun q hq => ?_, ?_, ?_, fun q hq => ?_⟩
  · rw [aSn]
    by_cases e : q = p
    · rw [if_pos e]; omega
    · rw [if_neg e]; exact w1 q hq
  · rw [aSn, aSn]
    have h3 := w2 q s hq hs hne
    by_cases e : q = p
    · rw [if_pos e]; intro z; exact absurd rfl z
    · rw [if_neg e]
      by_cases e2 : s = p
      · rw [if_pos e2]; intro z; exact z
      · rw [if_neg e2]; exact h3
  · rw [aSn, if_neg (by omega)]; exact w3 q hq
  · rw [aSn, if_neg (by omega), aSn, if_neg (by omega)]; exact w4 q hq
  · rw [aSn, if_neg (by omega), aSn, if_neg (by omega)]; exact w5
  · rw [aSn, if_neg (by omega)]; exact w6
  · rw [aSn, if_neg (by omega), aSn, if_neg (by omega)]; exact w7 q hq
theorem rW_swap {p q : Nat} (w : rW P H r) (hp : p < 8) (hq : q < 8) (hP : (p : Int) < P) (hQ : (q : Int) < P) (hne : p ≠ q) : rW P H (aS (aS r p (r q)) q (r p)) := by
  obtain ⟨w1, w2, w3, w4, w5, w6, w7⟩ := w
  have hv : ∀ s, aS (aS r p (r q)) q (r p) s = r (if s = q then p else if s = p then q else s) := by
    intro s
    rw [aSn, aSn]
    by_cases e : s = q
    · rw [if_pos e, if_pos e]
    · rw [if_neg e, if_neg e]
      by_cases e2 : s = p
      · rw [if_pos e2, if_pos e2]
      · rw [if_neg e2, if_neg e2]
  refine ⟨fun s hs => ?_, fun s u hs hu hsu => ?_, fun s hs => ?_, fun s hs => ?_, ?_, ?_, fun s hs => ?_⟩
  · rw [hv]
    have a1 := w1 p hp
    have a2 := w1 q hq
    have a3 := w1 s hs
    by_cases e : s = q
    · rw [if_pos e]; omega
    · rw [if_neg e]
      by_cases e2 : s = p
      · rw [if_pos e2]; omega
      · rw [if_neg e2]; exact a3
  · rw [hv, hv]
    refine w2 _ _ ?_ ?_ ?_
    · split
      · exact hp
      · split
        · exact hq
        · exact hs
    · split
      · exact hp
      · split
        · exact hq
        · exact hu
    · by_cases e : s = q
      · rw [if_pos e, if_neg (by omega)]
        by_cases e2 : u = p
        · rw [if_pos e2]; exact hne
        · rw [if_neg e2]; omega
      · rw [if_neg e]
        by_cases e2 : s = p
        · rw [if_pos e2]
          by_cases e3 : u = q
          · rw [if_pos e3]; omega
          · rw [if_neg e3, if_neg (by omega)]; omega
        · rw [if_neg e2]
          by_cases e3 : u = q
          · rw [if_pos e3]; exact e2
          · rw [if_neg e3]
            by_cases e4 : u = p
            · rw [if_pos e4]; exact e
            · rw [if_neg e4]; exact hsu
  · rw [hv, if_neg (by omega), if_neg (by omega)]; exact w3 s hs
  · rw [hv, if_neg (by omega), if_neg (by omega), hv, if_neg (by omega), if_neg (by omega)]; exact w4 s hs
  · rw [hv, if_neg (by omega), if_neg (by omega), hv, if_neg (by omega), if_neg (by omega)]; exact w5
  · rw [hv, if_neg (by omega), if_neg (by omega)]; exact w6
  · rw [hv, if_neg (by omega), if_neg (by omega), hv, if_neg (by omega), if_neg (by omega)]; exact w7 s hs
theorem rW_carve {p : Nat} {v : Int} (w : rW P H r) (hp : p < 8) (hv : -1 ≤ v ∧ v ≤ 11) : rW P H (aS r (8 + p) v) := by
  obtain ⟨w1, w2, w3, w4, w5, w6, w7⟩ := w
  refine ⟨fun s hs => ?_, fun s u hs hu => ?_, fun s hs => ?_, fun s hs => ?_, ?_, ?_, fun s hs => ?_⟩
  · rw [aSn, if_neg (by omega)]; exact w1 s hs
  · rw [aSn, if_neg (by omega), aSn, if_neg (by omega)]; exact w2 s u hs hu
  · rw [aSn]
    by_cases e : 8 + s = 8 + p
    · rw [if_pos e]; exact hv
    · rw [if_neg e]; exact w3 s hs
  · rw [aSn, if_neg (by omega), aSn, if_neg (by omega)]; exact w4 s hs
  · rw [aSn, if_neg (by omega), aSn, if_neg (by omega)]; exact w5
  · rw [aSn, if_neg (by omega)]; exact w6
  · rw [aSn, if_neg (by omega), aSn, if_neg (by omega)]; exact w7 s hs
theorem rW_pay {h : Nat} {v : Int} (w : rW P H r) (hh : h < 12) (h1 : 0 ≤ v) (h2 : v ≤ r (16 + h)) (h3 : v ≤ r 28) : rW P H (aS (aS r (16 + h) (r (16 + h) - v)) 28 (r 28 - v)) := by
  obtain ⟨w1, w2, w3, w4, w5, w6, w7⟩ := w
  refine ⟨fun s hs => ?_, fun s u hs hu => ?_, fun s hs => ?_, fun s hs => ?_, ?_, ?_, fun s hs => ?_⟩
  · rw [aSn, if_neg (by omega), aSn, if_neg (by omega)]; exact w1 s hs
  · rw [aSn, if_neg (by omega), aSn, if_neg (by omega), aSn, if_neg (by omega), aSn, if_neg (by omega)]; exact w2 s u hs hu
  · rw [aSn, if_neg (by omega), aSn, if_neg (by omega)]; exact w3 s hs
  · have e29 : aS (aS r (16 + h) (r (16 + h) - v)) 28 (r 28 - v) 29 = r 29 := by rw [aSn, if_neg (by omega), aSn, if_neg (by omega)]
    rw [e29, aSn, if_neg (by omega), aSn]
    have a1 := w4 s hs
    by_cases e : 16 + s = 16 + h
    · rw [if_pos e]
      rw [show s = h by omega] at a1 ⊢
      omega
    · rw [if_neg e]; exact a1
  · rw [aSn, if_pos rfl, aSn, if_neg (by omega), aSn, if_neg (by omega)]; omega
  · rw [aSn, if_neg (by omega), aSn, if_neg (by omega)]; exact w6
  · rw [aSn, if_neg (by omega), aSn, if_neg (by omega), aSn, if_neg (by omega), aSn, if_neg (by omega)]; exact w7 s hs
end
