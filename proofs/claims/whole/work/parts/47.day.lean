/-! A DAY PASSES: both sides -/
/-- a row in the midst of a day, the plinths below p through -/
def mid (P H : Int) (p : Nat) (r : Nat → Int) : Prop :=
  (∀ q, q < 8 → -1 ≤ r q ∧ r q < H ∧ (P ≤ (q : Int) → r q = -1)) ∧ (∀ q s, q < 8 → s < 8 → q ≠ s → r q ≠ -1 → r q ≠ r s) ∧
  (∀ q, q < 8 → -1 ≤ r (8 + q) ∧ r (8 + q) ≤ 11) ∧
  (∀ h, h < 12 → (0 ≤ r (16 + h) ∧ r (16 + h) ≤ 999 * r 29 + 999) ∧ ((∀ q, q < p → r q ≠ (h : Int)) → r (16 + h) ≤ 999 * r 29) ∧ (H ≤ (h : Int) → r (16 + h) = 0)) ∧
  (0 ≤ r 28 ∧ r 28 ≤ 7992 * r 29 + 999 * p) ∧ (0 ≤ r 29 ∧ r 29 ≤ 998) ∧
  ∀ h j, h < 12 → j < 13 → (0 ≤ r (30 + 13 * h + j) ∧ r (30 + 13 * h + j) ≤ r 29 + 1) ∧ ((∀ q, q < p → r q ≠ (h : Int)) → r (30 + 13 * h + j) ≤ r 29)
section
variable {P H : Int} {p : Nat} {r : Nat → Int}
theorem mid_0 (w : rW P H r) (h : r 29 ≤ 998) : mid P H 0 r := by
  obtain ⟨w1, w2, w3, w4, w5, w6, w7⟩ := w
  refine ⟨w1, w2, w3, fun h hh => ?_, ?_, ⟨w6.1, h⟩, fun h j hh hj => ?_⟩
  · have := w4 h hh
    exact ⟨⟨this.1, by omega⟩, fun _ => this.2.1, this.2.2⟩
  · omega
  · have := w7 (13 * h + j) (by omega)
    rw [show 30 + (13 * h + j) = 30 + 13 * h + j by omega] at this
    exact ⟨⟨this.1, by omega⟩, fun _ => this.2⟩
theorem mid_rJ (w : mid P H p r) : rJ r := by
  obtain ⟨w1, w2, w3, w4, w5, w6, w7⟩ := w
  exact ⟨w3, fun h hh => by have := w4 h hh; omega, by omega⟩
/-- the day's end but for the day itself -/
def fin (P H : Int) (r : Nat → Int) : Prop := rW P H (aS r 29 (r 29 + 1)) ∧ 0 ≤ r 29
theorem mid_fin (w : mid P H p r) (hp : p ≤ 8) : fin P H r := by
  obtain ⟨w1, w2, w3, w4, w5, w6, w7⟩ := w
  have e : ∀ k, k ≠ 29 → aS r 29 (r 29 + 1) k = r k := fun k hk => by rw [aSn, if_neg hk]
  have e29 : aS r 29 (r 29 + 1) 29 = r 29 + 1 := by rw [aSn, if_pos rfl]
  refine ⟨⟨fun q hq => ?_, fun q s hq hs => ?_, fun q hq => ?_, fun q hq => ?_, ?_, ?_, fun q hq => ?_⟩, w6.1⟩
  · rw [e q (by omega)]; exact w1 q hq
  · rw [e q (by omega), e s (by omega)]; exact w2 q s hq hs
  · rw [e (8 + q) (by omega)]; exact w3 q hq
  · rw [e (16 + q) (by omega), e29]
    have := w4 q hq
    exact ⟨this.1.1, by omega, this.2.2⟩
  · rw [e 28 (by omega), e29]; omega
  · rw [e29]; omega
  · rw [e (30 + q) (by omega), e29]
    have := w7 (q / 13) (q % 13) (by omega) (by omega)
    rw [show 30 + 13 * (q / 13) + q % 13 = 30 + q by omega] at this
    omega
theorem fin_rJ (w : fin P H r) : rJ r := by
  have e : ∀ k, k ≠ 29 → aS r 29 (r 29 + 1) k = r k := fun k hk => by rw [aSn, if_neg hk]
  have e29 : aS r 29 (r 29 + 1) 29 = r 29 + 1 := by rw [aSn, if_pos rfl]
  obtain ⟨⟨w1, w2, w3, w4, w5, w6, w7⟩, w8⟩ := w
  rw [e29] at w6
  refine ⟨fun q hq => ?_, fun q hq => ?_, ?_⟩
  · have := w3 q hq; rw [e _ (by omega)] at this; exact this
  · have := w4 q hq; rw [e _ (by omega), e29] at this; omega
  · omega
theorem fin_off (w : fin P H r) (hp : p < 8) (hH : 0 ≤ H) : fin P H (aS r p (-1)) := by
  unfold fin at w ⊢
  have := rW_off w.1 hp hH
  refine ⟨rW_congr (fun i hi => ?_) this, by rw [aSn, if_neg (by omega)]; exact w.2⟩
  simp only [aSn]
  rw [if_neg (show ¬ (29 = p) by omega)]
  by_cases e1 : i = 29
  · rw [if_pos e1, if_neg (by omega), if_pos e1]
  · rw [if_neg e1, if_neg e1]
/-- one plinth's part of a day -/
noncomputable def d1 (M0 : pm_M) (A0 r : Nat → Int) (p : Nat) : Nat → Int :=
  if r p = -1 then aS r 28 (r 28 + am M0 3 (rU A0 r) p (-1))
  else aS (aS (aS r (31 + 13 * (r p).toNat + r (8 + p)).toNat (r (31 + 13 * (r p).toNat + r (8 + p)).toNat + 1)) 28 (r 28 + am M0 1 (rU A0 (aS r (31 + 13 * (r p).toNat + r (8 + p)).toNat (r (31 + 13 * (r p).toNat + r (8 + p)).toNat + 1))) p (r p))) (16 + (r p).toNat) (r (16 + (r p).toNat) + am M0 0 (rU A0 (aS r (31 + 13 * (r p).toNat + r (8 + p)).toNat (r (31 + 13 * (r p).toNat + r (8 + p)).toNat + 1))) p (r p))
noncomputable def d1s (M0 : pm_M) (A0 : Nat → Int) : Nat → Nat → (Nat → Int) → Nat → Int
  | 0, _, r => r
  | k + 1, p, r => d1s M0 A0 k (p + 1) (d1 M0 A0 r p)
noncomputable def d2 (M0 : pm_M) (A0 r : Nat → Int) (p : Nat) : Nat → Int :=
  if r p = -1 then r else if am M0 4 (rU A0 r) p (r p) = 0 then r else aS r p (-1)
noncomputable def d2s (M0 : pm_M) (A0 : Nat → Int) : Nat → Nat → (Nat → Int) → Nat → Int
  | 0, _, r => r
  | k + 1, p, r => d2s M0 A0 k (p + 1) (d2 M0 A0 r p)
theorem mid_1 (w : mid P H p r) (hp : p < 8) (hr : r p = -1) {v : Int} (hv : 0 ≤ v ∧ v ≤ 999) : mid P H (p + 1) (aS r 28 (r 28 + v)) := by
  obtain ⟨w1, w2, w3, w4, w5, w6, w7⟩ := w
  have e : ∀ k, k ≠ 28 → aS r 28 (r 28 + v) k = r k := fun k hk => by rw [aSn, if_neg hk]
  have e28 : aS r 28 (r 28 + v) 28 = r 28 + v := by rw [aSn, if_pos rfl]
  refine ⟨fun q hq => ?_, fun q s hq hs => ?_, fun q hq => ?_, fun q hq => ?_, ?_, ?_, fun h j hh hj => ?_⟩
  · rw [e q (by omega)]; exact w1 q hq
  · rw [e q (by omega), e s (by omega)]; exact w2 q s hq hs
  · rw [e (8 + q) (by omega)]; exact w3 q hq
  · rw [e (16 + q) (by omega), e 29 (by omega)]
    have := w4 q hq
    refine ⟨this.1, fun z => this.2.1 (fun s hs => ?_), this.2.2⟩
    have := z s (by omega); rw [e s (by omega)] at this; exact this
  · rw [e28, e 29 (by omega)]; omega
  · rw [e 29 (by omega)]; exact w6
  · rw [e _ (by omega), e 29 (by omega)]
    have := w7 h j hh hj
    refine ⟨this.1, fun z => this.2 (fun s hs => ?_)⟩
    have := z s (by omega); rw [e s (by omega)] at this; exact this
theorem mid_2 {x : Nat} (w : mid P H p r) (hp : p < 8) (hH : H ≤ 12) (hr : r p ≠ -1) {v u : Int} (hx : x = (31 + 13 * (r p).toNat + r (8 + p)).toNat) (hv : 0 ≤ v ∧ v ≤ 999) (hu : 0 ≤ u ∧ u ≤ 999) : mid P H (p + 1) (aS (aS (aS r x (r x + 1)) 28 (r 28 + v)) (16 + (r p).toNat) (r (16 + (r p).toNat) + u)) := by
  obtain ⟨w1, w2, w3, w4, w5, w6, w7⟩ := w
  have wp := w1 p hp
  have wn := w3 p hp
  obtain ⟨h, eh⟩ : ∃ h : Nat, r p = h := ⟨(r p).toNat, by omega⟩
  obtain ⟨j, ej⟩ : ∃ j : Nat, r (8 + p) + 1 = j := ⟨(r (8 + p) + 1).toNat, by omega⟩
  rw [eh, tn_nat] at hx ⊢
  have hx' : x = 30 + 13 * h + j := by omega
  have fresh : ∀ q, q < p → r q ≠ (h : Int) := fun q hq z => w2 p q hp (by omega) (by omega) hr (by rw [eh, z])
  have wh := w4 h (by omega)
  have wj := w7 h j (by omega) (by omega)
  generalize hg : aS (aS (aS r x (r x + 1)) 28 (r 28 + v)) (16 + h) (r (16 + h) + u) = g
  have e : ∀ k, k ≠ 28 → k ≠ 16 + h → k ≠ x → g k = r k := fun k h1 h2 h3 => by rw [← hg, aSn, if_neg h2, aSn, if_neg h1, aSn, if_neg h3]
  have e28 : g 28 = r 28 + v := by rw [← hg, aSn, if_neg (by omega), aSn, if_pos rfl]
  have e16 : g (16 + h) = r (16 + h) + u := by rw [← hg, aSn, if_pos rfl]
  have ex : g x = r x + 1 := by rw [← hg, aSn, if_neg (by omega), aSn, if_neg (by omega), aSn, if_pos rfl]
  have e29 : g 29 = r 29 := e 29 (by omega) (by omega) (by omega)
  refine ⟨fun q hq => ?_, fun q s hq hs => ?_, fun q hq => ?_, fun q hq => ?_, ?_, ?_, fun h' j' hh hj => ?_⟩
  · rw [e q (by omega) (by omega) (by omega)]; exact w1 q hq
  · rw [e q (by omega) (by omega) (by omega), e s (by omega) (by omega) (by omega)]; exact w2 q s hq hs
  · rw [e (8 + q) (by omega) (by omega) (by omega)]; exact w3 q hq
  · rw [e29]
    have wq := w4 q hq
    by_cases eq : q = h
    · rw [eq, e16]
      have := wh.2.1 fresh
      refine ⟨by omega, fun z => ?_, fun z => by omega⟩
      have := z p (by omega)
      rw [e p (by omega) (by omega) (by omega), eh] at this
      exact absurd rfl this
    · rw [e (16 + q) (by omega) (by omega) (by omega)]
      refine ⟨wq.1, fun z => wq.2.1 (fun s hs => ?_), wq.2.2⟩
      have := z s (by omega); rw [e s (by omega) (by omega) (by omega)] at this; exact this
  · rw [e28, e29]; omega
  · rw [e29]; exact w6
  · rw [e29]
    have wq := w7 h' j' hh hj
    by_cases eq : 30 + 13 * h' + j' = x
    · have hh' : h' = h := by omega
      have hj' : j' = j := by omega
      rw [eq, ex, hx']
      have := wj.2 fresh
      refine ⟨by omega, fun z => ?_⟩
      have := z p (by omega)
      rw [e p (by omega) (by omega) (by omega), eh, hh'] at this
      exact absurd rfl this
    · rw [e _ (by omega) (by omega) eq]
      refine ⟨wq.1, fun z => wq.2 (fun s hs => ?_)⟩
      have := z s (by omega); rw [e s (by omega) (by omega) (by omega)] at this; exact this
end
