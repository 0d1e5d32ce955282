/-! BEST: the class's matching along cheapest chains -/
def cK : Int := 1000000000000
def uX (M : pm_M) (r : Nat) : Int := M 70 r
def vX (M : pm_M) (k : Nat) : Int := M 71 k
section
variable {n row pp : Nat} {C : Nat → Nat → Int} {R : Nat → Nat}
/-- what stays while a row is brought in -/
def hT (n pp : Nat) (C : Nat → Nat → Int) (R : Nat → Nat) (M : pm_M) : Prop := M 67 11 = n ∧ (∀ r k, 1 ≤ r → r ≤ pp → 1 ≤ k → k ≤ n → M 69 (21 * r + k) = C r k) ∧ ∀ k, k ≤ n → M 73 k = (R k : Int)
theorem hT_fr {M M' : pm_M} {S : List Nat} (h : hT n pp C R M) (hf : fr S M M') (hS : 67 ∉ S ∧ 69 ∉ S ∧ 73 ∉ S) : hT n pp C R M' := ⟨by rw [hf 67 hS.1]; exact h.1, fun r k a b c d => by rw [hf 69 hS.2.1]; exact h.2.1 r k a b c d, fun k hk => by rw [hf 73 hS.2.2]; exact h.2.2 k hk⟩
-- the nearest
def lft (C : Nat → Nat → Int) (M : pm_M) (r k : Nat) : Int := C r k - uX M r - vX M k
def nwF (C : Nat → Nat → Int) (M : pm_M) (r k : Nat) : Int := if M 72 k ≤ lft C M r k then M 72 k else lft C M r k
def ncF (C : Nat → Nat → Int) (M : pm_M) (r j k : Nat) : Int := if M 72 k ≤ lft C M r k then M 74 k else (j : Int)
def FARL : Int := 1152921504606846976
theorem x_near (hn : n ≤ 20) {M0 : pm_M} (hM0 : hT n pp C R M0) {j r : Nat} (hr : 1 ≤ r ∧ r ≤ 8) (hrp : r ≤ pp) (hC : ∀ k, 1 ≤ k → k ≤ n → -cK ≤ C r k ∧ C r k ≤ cK) (hu : -100 * cK ≤ uX M0 r ∧ uX M0 r ≤ 100 * cK) (hv : ∀ k, 1 ≤ k → k ≤ n → -100 * cK ≤ vX M0 k ∧ vX M0 k ≤ 100 * cK) : ∀ (t nn q : Nat) (least found : Int) (M : pm_M), q + t = n + 1 → 1 ≤ q → t < nn → fr [72, 74] M0 M → (∀ k, k < q → 1 ≤ k → M0 75 k = 0 → M 72 k = nwF C M0 r k ∧ M 74 k = ncF C M0 r j k) → (∀ k, (q ≤ k ∨ k = 0 ∨ M0 75 k ≠ 0) → M 72 k = M0 72 k ∧ M 74 k = M0 74 k) → ((found = 0 ∧ least = FARL ∧ ∀ k, 1 ≤ k → k < q → M0 75 k = 0 → FARL ≤ nwF C M0 r k) ∨ (∃ f : Nat, found = f ∧ 1 ≤ f ∧ f < q ∧ M0 75 f = 0 ∧ least = nwF C M0 r f ∧ ∀ k, 1 ≤ k → k < q → M0 75 k = 0 → least ≤ nwF C M0 r k)) →
    ok (f_Placing_nearestFrom_L17 nn j r least found q M) (fun z => fr [72, 74] M0 z.2.2 ∧ (∀ k, 1 ≤ k → k ≤ n → M0 75 k = 0 → z.2.2 72 k = nwF C M0 r k ∧ z.2.2 74 k = ncF C M0 r j k) ∧ (∀ k, (n < k ∨ k = 0 ∨ M0 75 k ≠ 0) → z.2.2 72 k = M0 72 k ∧ z.2.2 74 k = M0 74 k) ∧ ((z.2.1 = 0 ∧ z.1 = FARL ∧ ∀ k, 1 ≤ k → k ≤ n → M0 75 k = 0 → FARL ≤ nwF C M0 r k) ∨ (∃ f : Nat, z.2.1 = f ∧ 1 ≤ f ∧ f ≤ n ∧ M0 75 f = 0 ∧ z.1 = nwF C M0 r f ∧ ∀ k, 1 ≤ k → k ≤ n → M0 75 k = 0 → z.1 ≤ nwF C M0 r k))) := by
  unfold cK at hC hu hv
  intro t
  induction t with
  | zero =>
    intro nn q least found M hq hq1 hnn hf h1 h2 h3
    cases nn with
    | zero => omega
    | succ nn =>
      unfold f_Placing_nearestFrom_L17
      rw [hf 67 (by decide), hM0.1]
      refine ok_pos (by omega) (ok_some ⟨hf, fun k a b c => h1 k (by omega) a c, fun k hk => h2 k (by omega), ?_⟩)
      rcases h3 with ⟨a, b, c⟩ | ⟨f, a, b, c, d, e, g⟩
      · exact Or.inl ⟨a, b, fun k x y z => c k x (by omega) z⟩
      · exact Or.inr ⟨f, a, b, by omega, d, e, fun k x y z => g k x (by omega) z⟩
  | succ t ih =>
    intro nn q least found M hq hq1 hnn hf h1 h2 h3
    cases nn with
    | zero => omega
    | succ nn =>
      have hCq := hC q hq1 (by omega)
      have hvq := hv q hq1 (by omega)
      have hold := h2 q (by omega)
      have m75 : M 75 = M0 75 := hf 75 (by decide)
      unfold f_Placing_nearestFrom_L17 f_Placing_place
      rw [hf 67 (by decide), hM0.1, tn_nat, m75]
      refine ok_neg (by omega) (ok_pos (by omega) ?_)
      rw [i_ad_eq (a := (q : Int)) (by omega)]
      refine ok_ite (fun hus => ?_) (fun hus => ?_)
      · rw [i_ml_eq (by omega), i_ad_eq (a := (r : Int) * 21) (by omega)]
        refine ok_be rfl (ok_pos (by omega) (ok_pos (by omega) (ok_pos (by omega) (ok_pos (by omega) ?_))))
        rw [tn_nat, show ((r : Int) * 21 + (q : Int)).toNat = 21 * r + q by omega, hf 69 (by decide), hM0.2.1 r q hr.1 hrp hq1 (by omega), hf 70 (by decide), hf 71 (by decide), hold.1]
        have e1 : l_sb (l_sb (C r q) (M0 70 r)) (M0 71 q) = lft C M0 r q := by
          unfold lft uX vX
          unfold uX at hu
          unfold vX at hvq
          rw [l_sb_eq (a := C r q) (by omega), l_sb_eq (by omega)]
        rw [e1]
        -- the next turn, whatever was written
        have next : ∀ (M1 : pm_M), fr [72, 74] M0 M1 → M1 72 q = nwF C M0 r q → M1 74 q = ncF C M0 r j q → (∀ k, k ≠ q → M1 72 k = M 72 k ∧ M1 74 k = M 74 k) → ok (if least ≤ M1 72 q then f_Placing_nearestFrom_L17 nn j r least found ((q : Int) + 1) M1 else (if 0 ≤ (q : Int) ∧ (q : Int) < 21 then f_Placing_nearestFrom_L17 nn j r (M1 72 q) q ((q : Int) + 1) M1 else none)) (fun z => fr [72, 74] M0 z.2.2 ∧ (∀ k, 1 ≤ k → k ≤ n → M0 75 k = 0 → z.2.2 72 k = nwF C M0 r k ∧ z.2.2 74 k = ncF C M0 r j k) ∧ (∀ k, (n < k ∨ k = 0 ∨ M0 75 k ≠ 0) → z.2.2 72 k = M0 72 k ∧ z.2.2 74 k = M0 74 k) ∧ ((z.2.1 = 0 ∧ z.1 = FARL ∧ ∀ k, 1 ≤ k → k ≤ n → M0 75 k = 0 → FARL ≤ nwF C M0 r k) ∨ (∃ f : Nat, z.2.1 = f ∧ 1 ≤ f ∧ f ≤ n ∧ M0 75 f = 0 ∧ z.1 = nwF C M0 r f ∧ ∀ k, 1 ≤ k → k ≤ n → M0 75 k = 0 → z.1 ≤ nwF C M0 r k))) := by
          intro M1 g1 g2 g3 g4
          have a1 : ∀ k, k < q + 1 → 1 ≤ k → M0 75 k = 0 → M1 72 k = nwF C M0 r k ∧ M1 74 k = ncF C M0 r j k := by
            intro k x y z
            by_cases e : k = q
            · rw [e]; exact ⟨g2, g3⟩
            · rw [(g4 k e).1, (g4 k e).2]; exact h1 k (by omega) y z
          have a2 : ∀ k, (q + 1 ≤ k ∨ k = 0 ∨ M0 75 k ≠ 0) → M1 72 k = M0 72 k ∧ M1 74 k = M0 74 k := by
            intro k x
            have e : k ≠ q := by
              intro e
              subst e
              rcases x with x | x | x
              · omega
              · omega
              · exact x hus
            rw [(g4 k e).1, (g4 k e).2]
            exact h2 k (by rcases x with x | x | x; exact Or.inl (by omega); exact Or.inr (Or.inl x); exact Or.inr (Or.inr x))
          rw [g2]
          refine ok_ite (fun hle => ?_) (fun hle => ok_pos (by omega) ?_)
          · refine ih nn (q + 1) least found M1 (by omega) (by omega) (by omega) g1 a1 a2 ?_
            rcases h3 with ⟨a, b, c⟩ | ⟨f, a, b, c, d, e, g⟩
            · refine Or.inl ⟨a, b, fun k x y z => ?_⟩
              by_cases ek : k = q
              · rw [ek]; rw [b] at hle; exact hle
              · exact c k x (by omega) z
            · refine Or.inr ⟨f, a, b, by omega, d, e, fun k x y z => ?_⟩
              by_cases ek : k = q
              · rw [ek]; exact hle
              · exact g k x (by omega) z
          · refine ih nn (q + 1) _ _ M1 (by omega) (by omega) (by omega) g1 a1 a2 (Or.inr ⟨q, rfl, hq1, by omega, hus, rfl, fun k x y z => ?_⟩)
            by_cases ek : k = q
            · rw [ek]; exact Int.le_refl _
            · rcases h3 with ⟨a, b, c⟩ | ⟨f, a, b, c, d, e, g⟩
              · have := c k x (by omega) z; omega
              · have := g k x (by omega) z; omega
        refine ok_ite (fun hl => ok_pos (by omega) ?_) (fun hl => ok_pos (by omega) (ok_bd (ok_pos (by omega) (ok_bd (ok_pos (by omega) ?_)))))
        · have e2 : nwF C M0 r q = M0 72 q := by unfold nwF; rw [if_pos hl]
          have := next M hf (by rw [e2]; exact hold.1) (by unfold ncF; rw [if_pos hl]; exact hold.2) (fun k _ => ⟨rfl, rfl⟩)
          rw [hold.1] at this
          exact this
        · have e2 : nwF C M0 r q = lft C M0 r q := by unfold nwF; rw [if_neg hl]
          refine next _ (fr_2 (fr_2 hf (fr_ms (by decide))) (fr_ms (by decide))) ?_ ?_ (fun k hk => ⟨?_, ?_⟩)
          · rw [e2, pm_ms_ne (by omega), msc, aSn, if_pos rfl]
          · unfold ncF; rw [if_neg hl, msc, aSn, if_pos rfl]
          · rw [pm_ms_ne (by omega), msc, aSn, if_neg hk]
          · rw [msc, aSn, if_neg hk, pm_ms_ne (by omega)]
      · refine ih nn (q + 1) least found M (by omega) (by omega) (by omega) hf (fun k x y z => ?_) (fun k x => h2 k (by rcases x with x | x; exact Or.inl (by omega); exact Or.inr x)) ?_
        · by_cases ek : k = q
          · rw [ek] at z; exact absurd z hus
          · exact h1 k (by omega) y z
        · rcases h3 with ⟨a, b, c⟩ | ⟨f, a, b, c, d, e, g⟩
          · refine Or.inl ⟨a, b, fun k x y z => ?_⟩
            by_cases ek : k = q
            · rw [ek] at z; exact absurd z hus
            · exact c k x (by omega) z
          · refine Or.inr ⟨f, a, b, by omega, d, e, fun k x y z => ?_⟩
            by_cases ek : k = q
            · rw [ek] at z; exact absurd z hus
            · exact g k x (by omega) z
end
