/-! NIGHTS: the reference's histories -/
section
variable {A : Nat → Int} {P : Nat}
def sxN (p : Nat) : Nat := if p = 0 then 1 else if p = 1 then 6 else if p = 2 then 36 else if p = 3 then 216 else 1296
def phk (r : Nat → Int) : Nat → Nat
  | 0 => 0
  | k + 1 => phk r k + dgt r k * sxN k
theorem phk_b (r : Nat → Int) : ∀ k, k ≤ 5 → phk r k ≤ 6480 * k
  | 0, _ => by rw [phk]; omega
  | k + 1, h => by
    have h1 := phk_b r k (by omega)
    have h2 := dgt_lt r (show k < 5 by omega)
    have h3 : sxN k ≤ 1296 := by unfold sxN; split <;> (try split) <;> (try split) <;> (try split) <;> omega
    have h4 := Nat.mul_le_mul (show dgt r k ≤ 5 by omega) h3
    rw [phk]; omega
theorem phk_0 (r : Nat → Int) (hP : ∀ p, P ≤ p → p < 8 → r p = -1) : ∀ k, P ≤ k → k ≤ 5 → phk r k = phk r P
  | 0, h, _ => by rw [show P = 0 by omega]
  | k + 1, h, h5 => by
    by_cases e : k + 1 = P
    · rw [e]
    · have hk := hP k (by omega) (by omega)
      rw [phk, phk_0 r hP k (by omega) (by omega)]
      unfold dgt
      rw [if_pos hk]; omega
theorem phk_5 (r : Nat → Int) : phk r 5 = phi r 119 := by
  unfold phi dS
  rw [ck7_ok]
  show 0 + dgt r 0 * 1 + dgt r 1 * 6 + dgt r 2 * 36 + dgt r 3 * 216 + dgt r 4 * 1296 = dgt r 0 + 6 * dgt r 1 + 36 * dgt r 2 + 216 * dgt r 3 + 1296 * dgt r 4
  omega
/-- the standers in their order -/
def STD (A : Nat → Int) (k : Nat) (M : pm_M) : Prop := ∀ q, q < k → a_row A q ≠ -1 → M 114 (cnt (a_row A) q) = a_row A q
theorem cnt_mono (r : Nat → Int) : ∀ a b, a ≤ b → cnt r a ≤ cnt r b
  | a, 0, h => by rw [show a = 0 by omega]; exact Nat.le_refl _
  | a, b + 1, h => by
    by_cases e : a = b + 1
    · rw [e]; exact Nat.le_refl _
    · have := cnt_mono r a b (by omega)
      rw [cnt]; omega
theorem q_wayL (hA : WF A) (hP : P ≤ 5) (hPA : A 0 = P) : ∀ (t n q : Nat) (M : pm_M), q + t = P → t < n → M 88 = A → M 87 44 = (cnt (a_row A) q : Int) → STD A q M → ok (f_Q_wayNow_L9 n (phk (a_row A) q) q M) (fun z => z.1 = (phk (a_row A) P : Int) ∧ STD A P z.2 ∧ (∀ j, j ≠ 44 → z.2 87 j = M 87 j) ∧ fr [87, 114] M z.2) := by
  intro t
  induction t with
  | zero =>
    intro n q M hq hn hM hc hS
    cases n with
    | zero => omega
    | succ n =>
      unfold f_Q_wayNow_L9
      rw [show q = P by omega] at hS ⊢
      exact ok_pos (by rw [hM]; omega) (ok_some ⟨rfl, hS, fun _ _ => rfl, fr_rf _ _⟩)
  | succ t ih =>
    intro n q M hq hn hM hc hS
    cases n with
    | zero => omega
    | succ n =>
      have hcl := cnt_le (a_row A) q
      have hpb := phk_b (a_row A) q (by omega)
      have e70 : A (70 + q) = a_row A q := rfl
      unfold f_Q_wayNow_L9
      rw [i_ad_eq (a := 70) (by omega), show ((70 : Int) + (q : Int)).toNat = 70 + q by omega, hM, e70, i_ad_eq (a := (q : Int)) (by omega)]
      refine ok_neg (by omega) (ok_pos (by omega) (ok_ite (fun e => ?_) (fun e => ok_pos (by omega) ?_)))
      · have := ih n (q + 1) M (by omega) (by omega) hM (by rw [cnt, if_pos e, Nat.add_zero]; exact hc) (fun q' hq' hr => by
          by_cases e2 : q' = q
          · rw [e2] at hr; exact absurd e hr
          · exact hS q' (by omega) hr)
        have ed : dgt (a_row A) q = 0 := by unfold dgt; rw [if_pos e]
        rw [phk, ed, Nat.zero_mul, Nat.add_zero, show ((q + 1 : Nat) : Int) = (q : Int) + 1 by omega] at this
        exact this
      · have ec : cnt (a_row A) (q + 1) = cnt (a_row A) q + 1 := by rw [cnt, if_neg e]
        have ed : dgt (a_row A) q = cnt (a_row A) q + 1 := by unfold dgt; rw [if_neg e, ec]
        rw [hc]
        refine ok_pos (by omega) (ok_bd (ok_bd ?_))
        rw [tn_nat, pm_ms_ne (show (87 : Nat) ≠ 114 by omega), hc, i_ad_eq (a := (cnt (a_row A) q : Int)) (by omega)]
        generalize hM2 : pm_ms (pm_ms M 114 (cnt (a_row A) q) (a_row A q)) 87 44 ((cnt (a_row A) q : Int) + 1) = M2
        have f2 : fr [87, 114] M M2 := by rw [← hM2]; exact fr_2 (fr_ms (by decide)) (fr_ms (by decide))
        have m44 : M2 87 44 = (cnt (a_row A) q : Int) + 1 := by rw [← hM2, msc, aSn, if_pos rfl]
        refine ok_be (q_six (by omega) M2) (ok_bd ?_)
        have hsx : (sxN q : Int) = sx q ∧ 0 < sx q ∧ sx q ≤ 1296 := by
          rcases (show q = 0 ∨ q = 1 ∨ q = 2 ∨ q = 3 ∨ q = 4 by omega) with rfl | rfl | rfl | rfl | rfl <;> decide
        have hml := mul_bd (a := (cnt (a_row A) q : Int) + 1) (A := 5) (by omega) (b := sx q) (B := 1296) (by omega)
        rw [m44, i_ml_eq (by omega), i_ad_eq (by omega)]
        have hph : (phk (a_row A) q : Int) + ((cnt (a_row A) q : Int) + 1) * sx q = ((phk (a_row A) (q + 1) : Nat) : Int) := by
          rw [phk, ed, ← hsx.1]; simp
        rw [hph]
        refine ok_mono (ih n (q + 1) M2 (by omega) (by omega) (by rw [f2 88 (by decide)]; exact hM) (by rw [m44, ec]; omega) (fun q' hq' hr => ?_)) ?_
        · rw [← hM2, pm_ms_ne (by omega), msc, aSn]
          by_cases e2 : q' = q
          · rw [e2, if_pos rfl]
          · have hm : cnt (a_row A) q' + 1 ≤ cnt (a_row A) q := by
              have := cnt_mono (a_row A) (q' + 1) q (by omega)
              rw [cnt, if_neg hr] at this
              exact this
            rw [if_neg (by omega)]
            exact hS q' (by omega) hr
        · rintro z ⟨z1, z2, z3, z4⟩
          exact ⟨z1, z2, fun j hj => by rw [z3 j hj, ← hM2, msc, aSn, if_neg hj, pm_ms_ne (by omega)], fr_2 f2 z4⟩
theorem q_way {M : pm_M} (hA : WF A) (hP : P ≤ 5) (hPA : A 0 = P) (hM : M 88 = A) : ok (f_Q_wayNow M) (fun z => z.1 = (phi (a_row A) 119 : Int) ∧ STD A P z.2 ∧ (∀ j, j ≠ 44 → z.2 87 j = M 87 j) ∧ fr [87, 114] M z.2) := by
  unfold f_Q_wayNow
  have f1 : fr [87] M (pm_ms M 87 44 0) := fr_ms (by decide)
  refine ok_bd ?_
  have := q_wayL hA hP hPA P pm_F 0 (pm_ms M 87 44 0) (by omega) (by unfold pm_F; omega) (by rw [f1 88 (by decide)]; exact hM) (by rw [msc, aSn, if_pos rfl]; rfl) (fun q hq => by omega)
  rw [show ((phk (a_row A) 0 : Nat) : Int) = 0 from rfl, show ((0 : Nat) : Int) = 0 from rfl] at this
  refine ok_bind this ?_
  rintro z ⟨z1, z2, z3, z4⟩
  refine ok_some ⟨?_, z2, fun j hj => by show z.2 87 j = _; rw [z3 j hj, msc, aSn, if_neg hj], fr_tr f1 z4 (by decide) (by decide)⟩
  show z.1 = _
  rw [z1, ← phk_5, phk_0 (a_row A) (fun p hp hp8 => (hA.2.2.2.2.2.2.2.2.2.1.1 p hp8).2.2 (by omega)) 5 hP (Nat.le_refl _)]
/-- digits tell who stands -/
theorem dgt_r (hA : WF A) {q q' : Nat} (hq : q < 8) (hq' : q' < 8) : dgt (a_row A) q = dgt (a_row A) q' ↔ a_row A q = a_row A q' := by
  have w2 := hA.2.2.2.2.2.2.2.2.2.1.2.1
  have up : ∀ x y, x < y → a_row A y ≠ -1 → cnt (a_row A) (x + 1) < cnt (a_row A) (y + 1) := by
    intro x y hxy hy
    have := cnt_mono (a_row A) (x + 1) y (by omega)
    have e : cnt (a_row A) (y + 1) = cnt (a_row A) y + 1 := by rw [cnt, if_neg hy]
    omega
  constructor
  · intro h
    unfold dgt at h
    by_cases e1 : a_row A q = -1
    · rw [if_pos e1] at h
      by_cases e2 : a_row A q' = -1
      · rw [e1, e2]
      · rw [if_neg e2, cnt, if_neg e2] at h; omega
    · rw [if_neg e1] at h
      by_cases e2 : a_row A q' = -1
      · rw [if_pos e2, cnt, if_neg e1] at h; omega
      · rw [if_neg e2] at h
        by_cases c1 : q < q'
        · have := up q q' c1 e2; omega
        · by_cases c2 : q' < q
          · have := up q' q c2 e1; omega
          · rw [show q = q' by omega]
  · intro h
    by_cases e1 : a_row A q = -1
    · unfold dgt; rw [if_pos e1, if_pos (by rw [← h]; exact e1)]
    · by_cases e : q = q'
      · rw [e]
      · exact absurd h (w2 q q' hq hq' e e1)
theorem phi_d {r : Nat → Int} {s t : Nat} (hs : s < 120) (ht : t < 120) : phi r s = phi r t ↔ ∀ p, p < 5 → dS r s p = dS r t p := by
  constructor
  · intro h p hp
    have h1 := q_at6 (r := r) hs hp (fun _ _ => 0)
    have h2 := q_at6 (r := r) ht hp (fun _ _ => 0)
    rw [h, h2] at h1
    have := Option.some.inj h1
    omega
  · intro h
    unfold phi
    rw [h 0 (by omega), h 1 (by omega), h 2 (by omega), h 3 (by omega), h 4 (by omega)]
theorem w119 {p : Nat} (hp : p < 5) : (wr 119).getD p 0 = p := (inS_0 0).2 p (by omega) hp
theorem lk_all (A : Nat → Int) (P s : Nat) : lkn A P s = true ↔ ∀ p, p < 5 → lk1 A P s p = true := by
  unfold lkn
  simp only [lkR, Bool.and_eq_true, Bool.and_true]
  constructor
  · rintro ⟨h0, h1, h2, h3, h4⟩ p hp
    rcases (show p = 0 ∨ p = 1 ∨ p = 2 ∨ p = 3 ∨ p = 4 by omega) with rfl | rfl | rfl | rfl | rfl
    · exact h0
    · exact h1
    · exact h2
    · exact h3
    · exact h4
  · intro h
    exact ⟨h 0 (by omega), h 1 (by omega), h 2 (by omega), h 3 (by omega), h 4 (by omega)⟩
theorem lk1_t (A : Nat → Int) (P s p : Nat) : lk1 A P s p = true ↔ ((wr s).getD p 0 = p ∨ (p < P ∧ hdA A s p = a_row A p)) := by
  unfold lk1
  rw [Bool.or_eq_true, Bool.and_eq_true, decide_eq_true_iff, decide_eq_true_iff, decide_eq_true_iff]
theorem lkn_phi (hA : WF A) (hPA : A 0 = P) (hP : P ≤ 5) {s : Nat} (hs : inS P s) : lkn A P s = true ↔ phi (a_row A) s = phi (a_row A) 119 := by
  rw [lk_all, phi_d hs.1 (by omega)]
  refine forall_congr' (fun p => forall_congr' (fun hp => ?_))
  rw [lk1_t]
  have h5 := getD_lt hs.1 hp
  have e : dS (a_row A) s p = dS (a_row A) 119 p ↔ a_row A ((wr s).getD p 0) = a_row A p := by
    unfold dS
    rw [w119 hp]
    exact dgt_r hA (by omega) (by omega)
  rw [e]
  unfold hdA
  constructor
  · rintro (h | ⟨_, h⟩)
    · rw [h]
    · exact h
  · intro h
    by_cases hpP : p < P
    · exact Or.inr ⟨hpP, h⟩
    · exact Or.inl (hs.2 p (by omega) hp)
theorem lkn_out {s : Nat} (hs : s < 120) (hn : ¬ inS P s) : lkn A P s = false := by
  cases h : lkn A P s
  · rfl
  · exfalso
    apply hn
    refine ⟨hs, fun p hp hp5 => ?_⟩
    rcases (lk1_t A P s p).mp ((lk_all A P s).mp h p hp5) with h1 | ⟨h1, _⟩
    · exact h1
    · omega
-- what was seen
theorem q_isSo {M : pm_M} (hA : WF A) (hPA : A 0 = P) (hP : P ≤ 5) (hM : M 88 = A) (hS : STD A P M) {s : Nat} (hs : inS P s) (nt : Int) : f_Q_isSo nt (phi (a_row A) s) M = some (if sB A nt s then 1 else 0) := by
  have w5 := hA.2.2.2.2.2.1
  have w1 := hA.2.1
  -- who stands at a place
  have chin : ∀ p, p < 5 → (dS (a_row A) s p = 0 ∧ chn A (hdA A s p) = -1) ∨ (1 ≤ dS (a_row A) s p ∧ dS (a_row A) s p ≤ 5 ∧ ∃ h : Nat, (h : Int) < A 1 ∧ M 114 (dS (a_row A) s p - 1) = (h : Int) ∧ chn A (hdA A s p) = A (43 + 2 * h)) := by
    intro p hp
    have h5 := getD_lt hs.1 hp
    have hr := hA.2.2.2.2.2.2.2.2.2.1.1 ((wr s).getD p 0) (by omega)
    unfold dS hdA
    by_cases e : a_row A ((wr s).getD p 0) = -1
    · refine Or.inl ⟨by unfold dgt; rw [if_pos e], ?_⟩
      rw [e]; unfold chn; rw [if_neg (by omega)]
    · refine Or.inr ?_
      have hqP : (wr s).getD p 0 < P := by
        apply Classical.byContradiction
        intro hc
        exact e (hr.2.2 (by omega))
      have ed : dgt (a_row A) ((wr s).getD p 0) = cnt (a_row A) ((wr s).getD p 0) + 1 := by unfold dgt; rw [if_neg e, cnt, if_neg e]
      have hst := hS _ hqP e
      have hcl := cnt_le (a_row A) ((wr s).getD p 0)
      rw [ed]
      refine ⟨by omega, by omega, (a_row A ((wr s).getD p 0)).toNat, by omega, ?_, ?_⟩
      · rw [Nat.add_sub_cancel, hst]; omega
      · unfold chn; rw [if_pos ⟨by omega, by omega⟩]
  have L : ∀ (t n k : Nat) (x : Bool), k + t = (A 5).toNat → t < n → x = sgK A nt s k → f_Q_isSo_L5 M n nt (phi (a_row A) s) (if x then 1 else 0) k = some (if sB A nt s then 1 else 0) := by
    have fls : ∀ (t k : Nat), sgK A nt s k = false → sgK A nt s (k + t) = false := by
      intro t
      induction t with
      | zero => intro k h; exact h
      | succ t ih => intro k h; rw [← Nat.add_assoc, sgK, ih k h]; rfl
    intro t
    induction t with
    | zero =>
      intro n k x hk hn hx
      cases n with
      | zero => omega
      | succ n =>
        unfold f_Q_isSo_L5
        rw [hM, if_pos (by omega), hx, show k = (A 5).toNat by omega]; rfl
    | succ t ih =>
      intro n k x hk hn hx
      cases n with
      | zero => omega
      | succ n =>
        have w8 := hA.2.2.2.2.2.2.2.2.1 k (by omega)
        unfold f_Q_isSo_L5
        rw [hM, if_neg (by omega)]
        cases hxx : x
        · rw [if_pos (by decide)]
          have := fls (t + 1) k (by rw [← hx]; exact hxx)
          unfold sB
          rw [show (A 5).toNat = k + (t + 1) by omega, this]
        · rw [if_neg (by decide), i_ml_eq (by omega), i_ad_eq (a := 256) (by omega), if_pos (by omega), i_ad_eq (b := 1) (by omega), i_ad_eq (a := 256 + 3 * (k : Int)) (b := 2) (by omega), i_ad_eq (a := (k : Int)) (by omega), show ((256 : Int) + 3 * (k : Int)).toNat = 256 + 3 * k by omega, show ((256 : Int) + 3 * (k : Int) + 1).toNat = 257 + 3 * k by omega, show ((256 : Int) + 3 * (k : Int) + 2).toNat = 258 + 3 * k by omega]
          have ih' := fun y => ih n (k + 1) y (by omega) (by omega)
          rw [show ((k + 1 : Nat) : Int) = (k : Int) + 1 by omega, sgK] at ih'
          rw [← hx, hxx, Bool.true_and] at ih'
          by_cases g : A (256 + 3 * k) = nt
          · rw [if_pos g, if_pos (by omega)]
            obtain ⟨p, ep⟩ : ∃ p : Nat, A (257 + 3 * k) = p := ⟨(A (257 + 3 * k)).toNat, by omega⟩
            have esg : sg1 A nt s k = decide (chn A (hdA A s p) = A (258 + 3 * k)) := by unfold sg1; rw [ep, tn_nat]; simp [g]
            rw [ep, q_at6 hs.1 (by omega), ob]
            rcases chin p (by omega) with ⟨d0, dc⟩ | ⟨d1, d2, h, hh, d3, dc⟩
            · rw [d0, if_pos (by omega), if_pos (by omega)]
              rw [esg, dc] at ih'
              by_cases g2 : -1 = A (258 + 3 * k)
              · rw [if_pos g2]; exact ih' true (by rw [decide_eq_true g2])
              · rw [if_neg g2]; exact ih' false (by rw [decide_eq_false g2])
            · rw [if_neg (by omega), i_sb_eq (by omega), if_pos (by omega), show ((dS (a_row A) s p : Int) - 1).toNat = dS (a_row A) s p - 1 by omega, d3, i_ml_eq (by omega), i_ad_eq (a := 42) (by omega), i_ad_eq (a := 42 + 2 * (h : Int)) (by omega), if_pos (by omega), show ((42 : Int) + 2 * (h : Int) + 1).toNat = 43 + 2 * h by omega]
              dsimp only [pm_bd]
              rw [if_pos (by omega)]
              rw [esg, dc] at ih'
              by_cases g2 : A (43 + 2 * h) = A (258 + 3 * k)
              · rw [if_pos g2]; exact ih' true (by rw [decide_eq_true g2])
              · rw [if_neg g2]; exact ih' false (by rw [decide_eq_false g2])
          · rw [if_neg g]
            have esg : sg1 A nt s k = true := by unfold sg1; simp [g]
            exact ih' true (by rw [esg])
  unfold f_Q_isSo
  have := L (A 5).toNat pm_F 0 true (by omega) (by unfold pm_F; omega) rfl
  rw [if_pos rfl, show ((0 : Nat) : Int) = 0 from rfl] at this
  rw [this, ob, if_pos]
  split <;> simp
end
