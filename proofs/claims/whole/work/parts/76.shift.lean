/-! BEST: the parts shift; one turn of the search -/
section
variable {n row pp : Nat} {C : Nat → Nat → Int} {R : Nat → Nat}
def trk (M : pm_M) (R : Nat → Nat) : Nat → Nat → Bool
  | 0, _ => false
  | q + 1, r => trk M R q r || (decide (M 75 q ≠ 0) && decide (R q = r))
theorem trk_t (M : pm_M) (R : Nat → Nat) (r : Nat) : ∀ q, trk M R q r = true ↔ ∃ k, k < q ∧ M 75 k ≠ 0 ∧ R k = r
  | 0 => ⟨fun h => Bool.noConfusion h, fun ⟨k, h, _⟩ => absurd h (Nat.not_lt_zero k)⟩
  | q + 1 => by
    rw [trk, Bool.or_eq_true, trk_t M R r q, Bool.and_eq_true, decide_eq_true_iff, decide_eq_true_iff]
    constructor
    · rintro (⟨k, h1, h2, h3⟩ | ⟨h1, h2⟩)
      · exact ⟨k, by omega, h2, h3⟩
      · exact ⟨q, by omega, h1, h2⟩
    · rintro ⟨k, h1, h2, h3⟩
      by_cases e : k = q
      · subst e; exact Or.inr ⟨h2, h3⟩
      · exact Or.inl ⟨k, by omega, h2, h3⟩
theorem x_shift (hn : n ≤ 20) {M0 : pm_M} (hM0 : hT n pp C R M0) {d : Int} (hd : -10 * cK ≤ d ∧ d ≤ 10 * cK) (hR8 : ∀ k, k ≤ n → M0 75 k ≠ 0 → 1 ≤ R k ∧ R k ≤ 8) (hinj : ∀ k k', k ≤ n → k' ≤ n → M0 75 k ≠ 0 → M0 75 k' ≠ 0 → R k = R k' → k = k') (hu : ∀ r, 1 ≤ r → r ≤ 8 → -100 * cK ≤ uX M0 r ∧ uX M0 r ≤ 100 * cK) (hv : ∀ k, 1 ≤ k → k ≤ n → -100 * cK ≤ vX M0 k ∧ vX M0 k ≤ 100 * cK) (hw : ∀ k, k ≤ n → M0 75 k = 0 → -1000 * cK ≤ M0 72 k ∧ M0 72 k ≤ 1000 * cK) : ∀ (t nn q : Nat) (M : pm_M), q + t = n + 1 → t < nn → fr [70, 71, 72] M0 M → (∀ r, uX M r = if trk M0 R q r then uX M0 r + d else uX M0 r) → (∀ k, 1 ≤ k → k ≤ n → vX M k = if k < q ∧ M0 75 k ≠ 0 then vX M0 k - d else vX M0 k) → (∀ k, k ≤ n → M 72 k = if k < q ∧ M0 75 k = 0 then M0 72 k - d else M0 72 k) →
    ok (f_Placing_shift_L2 nn d q M) (fun M' => fr [70, 71, 72] M0 M' ∧ (∀ r, uX M' r = if trk M0 R (n + 1) r then uX M0 r + d else uX M0 r) ∧ (∀ k, 1 ≤ k → k ≤ n → vX M' k = if M0 75 k ≠ 0 then vX M0 k - d else vX M0 k) ∧ (∀ k, k ≤ n → M' 72 k = if M0 75 k = 0 then M0 72 k - d else M0 72 k)) := by
  unfold cK at hd hu hv hw
  intro t
  induction t with
  | zero =>
    intro nn q M hq hnn hf h1 h2 h3
    cases nn with
    | zero => omega
    | succ nn =>
      unfold f_Placing_shift_L2
      rw [hf 67 (by decide), hM0.1]
      rw [show q = n + 1 by omega] at h1
      refine ok_pos (by omega) (ok_some ⟨hf, h1, fun k a b => ?_, fun k a => ?_⟩)
      · rw [h2 k a b]
        by_cases e : M0 75 k ≠ 0
        · rw [if_pos ⟨by omega, e⟩, if_pos e]
        · rw [if_neg (fun z => e z.2), if_neg e]
      · rw [h3 k a]
        by_cases e : M0 75 k = 0
        · rw [if_pos ⟨by omega, e⟩, if_pos e]
        · rw [if_neg (fun z => e z.2), if_neg e]
  | succ t ih =>
    intro nn q M hq hnn hf h1 h2 h3
    cases nn with
    | zero => omega
    | succ nn =>
      have m75 : M 75 = M0 75 := hf 75 (by decide)
      unfold f_Placing_shift_L2
      rw [hf 67 (by decide), hM0.1, tn_nat, m75, i_ad_eq (a := (q : Int)) (by omega)]
      refine ok_neg (by omega) (ok_pos (by omega) (ok_ite (fun hus => ok_pos (by omega) (ok_pos (by omega) (ok_bd ?_))) (fun hus => ok_pos (by omega) ?_)))
      · have e72 := h3 q (by omega)
        rw [if_neg (by omega)] at e72
        have hb := hw q (by omega) hus
        rw [e72, l_sb_eq (by omega)]
        have f1 : fr [72] M (pm_ms M 72 q (M0 72 q - d)) := fr_ms (by decide)
        refine ih nn (q + 1) _ (by omega) (by omega) (fr_tr hf f1 (by decide) (by decide)) (fun r => ?_) (fun k a b => ?_) (fun k a => ?_)
        · show (pm_ms M 72 q (M0 72 q - d)) 70 r = _
          rw [f1 70 (by decide)]
          have := h1 r
          unfold uX at this ⊢
          rw [this, trk]
          have : decide (M0 75 q ≠ 0) = false := decide_eq_false (fun z => z hus)
          rw [this, Bool.false_and, Bool.or_false]
        · show (pm_ms M 72 q (M0 72 q - d)) 71 k = _
          rw [f1 71 (by decide)]
          have := h2 k a b
          unfold vX at this ⊢
          rw [this]
          by_cases e : k = q
          · subst e; rw [if_neg (by omega), if_neg (fun z => z.2 hus)]
          · by_cases e2 : k < q ∧ M0 75 k ≠ 0
            · rw [if_pos e2, if_pos ⟨by omega, e2.2⟩]
            · rw [if_neg e2, if_neg (fun z => e2 ⟨by omega, z.2⟩)]
        · rw [msc, aSn]
          by_cases e : k = q
          · rw [if_pos e, e, if_pos ⟨by omega, hus⟩]
          · rw [if_neg e, h3 k a]
            by_cases e2 : k < q ∧ M0 75 k = 0
            · rw [if_pos e2, if_pos ⟨by omega, e2.2⟩]
            · rw [if_neg e2, if_neg (fun z => e2 ⟨by omega, z.2⟩)]
      · have hRq := hR8 q (by omega) hus
        rw [hf 73 (by decide), hM0.2.2 q (by omega)]
        refine ok_pos (by omega) (ok_pos (by omega) (ok_bd (ok_pos (by omega) (ok_pos (by omega) (ok_bd ?_)))))
        simp only [tn_nat]
        have nt : trk M0 R q (R q) = false := by
          cases ht : trk M0 R q (R q)
          · rfl
          · obtain ⟨k, g1, g2, g3⟩ := (trk_t M0 R (R q) q).mp ht
            have := hinj k q (by omega) (by omega) g2 hus g3
            omega
        have eu := h1 (R q)
        rw [nt, if_neg (by decide)] at eu
        have hub := hu (R q) hRq.1 hRq.2
        have eu' : M 70 (R q) = M0 70 (R q) := eu
        unfold uX at hub
        rw [eu', l_ad_eq (by omega), pm_ms_ne (show (71 : Nat) ≠ 70 by omega)]
        generalize hM1 : pm_ms (pm_ms M 70 (R q) (M0 70 (R q) + d)) 71 q (l_sb (M 71 q) d) = M1
        have f1 : fr [70, 71] M M1 := by rw [← hM1]; exact fr_2 (fr_ms (by decide)) (fr_ms (by decide))
        refine ih nn (q + 1) M1 (by omega) (by omega) (fr_tr hf f1 (by decide) (by decide)) (fun r => ?_) (fun k a b => ?_) (fun k a => ?_)
        · have e70 : uX M1 r = if r = R q then M0 70 (R q) + d else uX M r := by
            unfold uX
            rw [← hM1, pm_ms_ne (by omega), msc, aSn]
          rw [e70, trk]
          have : decide (M0 75 q ≠ 0) = true := decide_eq_true hus
          rw [this, Bool.true_and]
          by_cases e : r = R q
          · rw [if_pos e, e, decide_eq_true rfl, Bool.or_true, if_pos rfl]; rfl
          · rw [if_neg e, decide_eq_false (fun z => e z.symm), Bool.or_false]; exact h1 r
        · have e71 : vX M1 k = if k = q then l_sb (M 71 q) d else vX M k := by
            unfold vX
            rw [← hM1, msc, aSn, pm_ms_ne (by omega)]
          rw [e71]
          by_cases e : k = q
          · subst e
            have ev := h2 k a b
            rw [if_neg (by omega)] at ev
            have hvb := hv k a b
            have ev' : M 71 k = M0 71 k := ev
            unfold vX at hvb
            rw [if_pos rfl, if_pos ⟨by omega, hus⟩, ev', l_sb_eq (by omega)]; rfl
          · rw [if_neg e, h2 k a b]
            by_cases e2 : k < q ∧ M0 75 k ≠ 0
            · rw [if_pos e2, if_pos ⟨by omega, e2.2⟩]
            · rw [if_neg e2, if_neg (fun z => e2 ⟨by omega, z.2⟩)]
        · rw [f1 72 (by decide), h3 k a]
          by_cases e : k = q
          · subst e; rw [if_neg (by omega), if_neg (fun z => hus z.2)]
          · by_cases e2 : k < q ∧ M0 75 k = 0
            · rw [if_pos e2, if_pos ⟨by omega, e2.2⟩]
            · rw [if_neg e2, if_neg (fun z => e2 ⟨by omega, z.2⟩)]
/-- what is known of the rows and columns as a row comes in -/
def RF (n row : Nat) (R : Nat → Nat) : Prop := R 0 = row ∧ 1 ≤ row ∧ row ≤ 8 ∧ (∀ k, 1 ≤ k → k ≤ n → R k < row) ∧ (∀ k k', k ≤ n → k' ≤ n → R k ≠ 0 → R k = R k' → k = k') ∧ ∃ f, 1 ≤ f ∧ f ≤ n ∧ R f = 0
def CB (n pp : Nat) (C : Nat → Nat → Int) : Prop := ∀ r k, 1 ≤ r → r ≤ pp → 1 ≤ k → k ≤ n → -cK ≤ C r k ∧ C r k ≤ cK
/-- the parts as they were at first -/
def U0 (n row : Nat) (C : Nat → Nat → Int) (R : Nat → Nat) (u0 v0 : Nat → Int) : Prop := (∀ r k, 1 ≤ r → r < row → 1 ≤ k → k ≤ n → u0 r + v0 k ≤ C r k) ∧ (∀ k, 1 ≤ k → k ≤ n → R k ≠ 0 → C (R k) k = u0 (R k) + v0 k) ∧ (∀ k, 1 ≤ k → k ≤ n → v0 k ≤ 0 ∧ (R k = 0 → v0 k = 0) ∧ -30 * cK ≤ v0 k) ∧ (∀ r, 1 ≤ r → r ≤ 8 → -30 * cK ≤ u0 r ∧ u0 r ≤ 30 * cK) ∧ u0 row = 0
/-- the search behind i turns, at the column j -/
def PH (n pp row : Nat) (C : Nat → Nat → Int) (R : Nat → Nat) (u0 v0 : Nat → Int) (i j : Nat) (M : pm_M) : Prop :=
  hT n pp C R M ∧ (∀ k, k ≤ n → M 75 k = 0 ∨ M 75 k = 1) ∧ smv (n + 1) (M 75) = i ∧ M 75 0 = 1 ∧ (1 ≤ j ∧ j ≤ n ∧ M 75 j = 0 ∧ M 72 j = 0) ∧
  (∀ k, 1 ≤ k → k ≤ n → M 75 k = 1 → R k ≠ 0) ∧
  (∀ k, 1 ≤ k → k ≤ n → M 75 k = 0 → 0 ≤ M 72 k ∧ (∀ q, q ≤ n → M 75 q = 1 → M 72 k ≤ lft C M (R q) k) ∧ ∃ p, M 74 k = (p : Nat) ∧ p ≤ n ∧ M 75 p = 1 ∧ M 72 k = lft C M (R p) k) ∧
  (∃ rk : Nat → Nat, rk 0 = 0 ∧ ∀ k, 1 ≤ k → k ≤ n → M 75 k = 1 → rk k < i ∧ ∃ p, M 74 k = (p : Nat) ∧ p ≤ n ∧ M 75 p = 1 ∧ rk p < rk k ∧ lft C M (R p) k = 0) ∧
  (∀ r k, 1 ≤ r → r ≤ row → 1 ≤ k → k ≤ n → 0 ≤ lft C M r k) ∧ (∀ k, 1 ≤ k → k ≤ n → R k ≠ 0 → lft C M (R k) k = 0) ∧
  (∀ k, 1 ≤ k → k ≤ n → vX M k ≤ 0 ∧ (M 75 k = 0 → vX M k = v0 k)) ∧
  (-cK ≤ uX M row ∧ uX M row ≤ cK) ∧ (∀ r, 1 ≤ r → r ≤ 8 → r ≠ row → u0 r ≤ uX M r ∧ uX M r ≤ u0 r + (uX M row + cK)) ∧ (∀ k, 1 ≤ k → k ≤ n → v0 k - (uX M row + cK) ≤ vX M k ∧ vX M k ≤ v0 k) ∧ ∀ r, row < r → r ≤ 8 → uX M r = u0 r
end
