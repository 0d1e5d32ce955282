/-! ROUNDS: the call, both sides -/
section
variable {M M0 : pm_M} {P N : Nat} {b A : Nat → Int}
theorem fr_EN (hS : St M) {S : List Nat} {y z : Int × pm_M} (e : y.1 = z.1) (h : fr S M z.2) (hs : SB S) (h88 : 88 ∉ S) (hcx : ∀ c ∈ [1, 2, 24, 25, 26, 27, 28, 29, 30, 31, 32, 33, 34, 36], c ∉ S) : EN M y z := by
  refine ⟨e, ⟨by rw [h 88 h88]; exact hS.1, ?_⟩, by rw [h 88 h88], Kp_fr h hs⟩
  rw [h 88 h88]
  exact CX_fr h hcx hS.2
-- the keeper's plan
theorem x_L14 (hP : P ≤ 8) (hb : ∀ p, p < P → 0 ≤ b p ∧ b p ≤ 999) : ∀ (k n q : Nat) (y : Int) (M : pm_M), q + k = P → k < n → M 18 5 = P → (∀ p, p < P → M 19 p = b p) → 0 ≤ y → y ≤ 999 → (∀ p, p < q → b p ≤ y) → (∀ p, p < q → M 20 p = -1) →
    ok (f_Keeper_plan_L14 n y q M) (fun z => (0 ≤ z.1 ∧ z.1 ≤ 999) ∧ (∀ p, p < P → b p ≤ z.1) ∧ (∀ p, p < P → z.2 20 p = -1) ∧ fr [20] M z.2) := by
  intro k
  induction k with
  | zero =>
    intro n q y M hq hn h5 h19 hy1 hy2 hby h20
    cases n with
    | zero => omega
    | succ n =>
      unfold f_Keeper_plan_L14
      exact ok_pos (by omega) (ok_some ⟨⟨hy1, hy2⟩, fun p hp => hby p (by omega), fun p hp => h20 p (by omega), fr_rf _ _⟩)
  | succ k ih =>
    intro n q y M hq hn h5 h19 hy1 hy2 hby h20
    cases n with
    | zero => omega
    | succ n =>
      have hbq := hb q (by omega)
      unfold f_Keeper_plan_L14
      rw [tn_nat, h19 q (by omega), i_ad_eq (by omega)]
      refine ok_neg (by omega) (ok_pos (by omega) (ok_bd (ok_pos (by omega) (ok_bd ?_))))
      have hm : y ≤ i_mx y (b q) ∧ b q ≤ i_mx y (b q) ∧ i_mx y (b q) ≤ 999 := by unfold i_mx; split <;> omega
      have f1 : fr [20] M (pm_ms M 20 q (-1)) := fr_ms (by decide)
      refine ok_mono (ih n (q + 1) _ _ (by omega) (by omega) (by rw [f1 18 (by decide)]; exact h5) (fun p hp => by rw [f1 19 (by decide)]; exact h19 p hp) (by omega) hm.2.2 (fun p hp => ?_) (fun p hp => ?_)) (fun z hz => ⟨hz.1, hz.2.1, hz.2.2.1, fr_2 f1 hz.2.2.2⟩)
      · by_cases h : p = q
        · rw [h]; exact hm.2.1
        · have := hby p (by omega); omega
      · rw [msc, aSn]
        split
        · rfl
        · exact h20 p (by omega)
theorem x_L63 {B : Int} (hB : 0 ≤ B ∧ B ≤ 999) (hN : N ≤ 5) : ∀ (k n : Nat) (M : pm_M), k ≤ N → k < n → M 18 6 = N → (∀ e, k ≤ e → e ≤ N → M 23 e = hop B N (N - e)) → ok (f_Keeper_plan_L63 n B ((k : Int) - 1) M) (fun M' => (∀ e, e ≤ N → M' 23 e = hop B N (N - e)) ∧ fr [23] M M') := by
  intro k
  induction k with
  | zero =>
    intro n M hk hn h6 h23
    cases n with
    | zero => omega
    | succ n =>
      unfold f_Keeper_plan_L63
      exact ok_pos (by omega) (ok_some ⟨fun e he => h23 e (by omega) he, fr_rf _ _⟩)
  | succ k ih =>
    intro n M hk hn h6 h23
    cases n with
    | zero => omega
    | succ n =>
      have hh := hop_b hB hN (N - (k + 1)) (by omega)
      have e1 := h23 (k + 1) (by omega) (by omega)
      have p1 := mul_bd hB (b := (k : Int) + 1) (B := 5) (by omega)
      have p2 := mul_bd p1 (b := (N : Int) - k) (B := 5) (by omega)
      unfold f_Keeper_plan_L63
      rw [show ((k + 1 : Nat) : Int) - 1 = (k : Int) by omega, tn_nat, h6, i_ad_eq (a := (k : Int)) (b := 1) (by omega), i_ad_eq (a := (k : Int)) (b := -1) (by omega), show ((k : Int) + 1).toNat = k + 1 by omega, e1, i_ml_eq (a := B) (by omega), i_sb_eq (by omega), i_ml_eq (by omega), i_ad_eq (by omega), show (k : Int) + -1 = (k : Int) - 1 by omega]
      refine ok_neg (by omega) (ok_pos (by omega) (ok_pos (by omega) (ok_bd ?_)))
      refine ok_mono (ih n _ (by omega) (by omega) (by rw [msn, if_neg (by omega)]; exact h6) (fun e h1 h2 => ?_)) (fun M' h => ⟨h.1, fr_2 (fr_ms (by decide)) h.2⟩)
      rw [msc, aSn]
      by_cases h : e = k
      · rw [if_pos h, h, show N - k = (N - (k + 1)) + 1 by omega, hop]
        have a1 : (N : Int) - (((N - (k + 1) : Nat) : Int) + 1) + 1 = (k : Int) + 1 := by omega
        have a2 : ((N - (k + 1) : Nat) : Int) + 1 = (N : Int) - k := by omega
        rw [a1, a2]
      · rw [if_neg h]; exact h23 e (by omega) h2
theorem x_plan (hP : 0 < P ∧ P ≤ 8) (hN : 1 ≤ N ∧ N ≤ 5) (hb : ∀ p, p < P → 0 ≤ b p ∧ b p ≤ 999) (h5 : M 18 5 = P) (h19 : ∀ p, p < P → M 19 p = b p) : ok (f_Keeper_plan N M) (fun M' => (∃ f, f < P ^ N ∧ M' 18 7 = vv b P N f ∧ (∀ j, j < f → vv b P N j < vv b P N f) ∧ (∀ j, j < P ^ N → vv b P N j ≤ vv b P N f) ∧ ∀ e, e < N → M' 22 e = ((f / P ^ (N - 1 - e) % P : Nat) : Int)) ∧ M' 18 5 = P ∧ M' 18 6 = N ∧ (M' 18 7 ≤ 1000000) ∧ fr [18, 20, 21, 22, 23] M M') := by
  unfold f_Keeper_plan
  refine ok_bd (ok_bd ?_)
  generalize hM1 : pm_ms (pm_ms M 18 6 (N : Int)) 18 7 (-1) = M1
  have f1 : fr [18] M M1 := by rw [← hM1]; exact fr_2 (fr_ms (by decide)) (fr_ms (by decide))
  have c18 : M1 18 = aS (aS (M 18) 6 N) 7 (-1) := by rw [← hM1, msc, msc]
  have g5 : M1 18 5 = P := by rw [c18, aSn, if_neg (by omega), aSn, if_neg (by omega)]; exact h5
  have g6 : M1 18 6 = N := by rw [c18, aSn, if_neg (by omega), aSn, if_pos rfl]
  have g7 : M1 18 7 = -1 := by rw [c18, aSn, if_pos rfl]
  refine ok_bind (x_L14 hP.2 hb P pm_F 0 0 M1 (by omega) (by unfold pm_F; omega) g5 (fun p hp => by rw [f1 19 (by decide)]; exact h19 p hp) (by omega) (by omega) (fun p hp => by omega) (fun p hp => by omega)) ?_
  rintro ⟨B, M2⟩ ⟨hB, hbB, h20, f2⟩
  dsimp only at hB hbB h20 f2 ⊢
  have m18 : M2 18 = M1 18 := f2 18 (by decide)
  have e26 : M2 18 6 = N := by rw [m18, g6]
  refine ok_pos (by rw [e26]; omega) (ok_bd ?_)
  rw [e26, tn_nat]
  have f3 : fr [23] M2 (pm_ms M2 23 N 0) := fr_ms (by decide)
  rw [f3 18 (by decide), m18, g6, i_sb_eq (by omega)]
  refine ok_bind (x_L63 hB hN.2 N pm_F (pm_ms M2 23 N 0) (by omega) (by unfold pm_F; omega) (by rw [f3 18 (by decide), m18, g6]) (fun e h1 h2 => ?_)) ?_
  · rw [show e = N by omega, msc, aSn, if_pos rfl, show N - N = 0 by omega, hop]
  rintro M4 ⟨h23, f4⟩
  have f14 : fr [20, 23] M1 M4 := fr_tr (fr_tr f2 f3 (S := [20, 23]) (by decide) (by decide)) f4 (by decide) (by decide)
  have n18 : M4 18 = M1 18 := f14 18 (by decide)
  have := x_clean (P := P) (N := N) (b := b) (B := B) hP hN (fun p hp => ⟨(hb p hp).1, hbB p hp⟩) hB N 20 0 0 0 cl0 M4 (by omega) (by omega) (by omega) (by omega) (by rw [n18]; exact g5) (by rw [n18]; exact g6) (fun p hp => by rw [f14 19 (by decide), f1 19 (by decide)]; exact h19 p hp) (fun p hp => by rw [f4 20 (by decide), f3 20 (by decide), h20 p hp]; rfl) (fun p hp => by unfold cl0; omega) h23 (fun e he => by omega) (fun k hk => by rw [Nat.zero_mul, Nat.zero_add, Int.zero_add]; rfl) (by rw [n18, g7]; omega) (by rw [Nat.zero_mul]; exact Or.inl ⟨rfl, by rw [n18, g7]⟩)
  rw [show ((0 : Nat) : Int) = 0 from rfl] at this
  refine ok_bind this (fun M5 h => ok_some ?_)
  obtain ⟨hPR, hms, k20, k21, k18, k5f⟩ := h
  have hpos := pw_pos hP.1 N
  refine ⟨?_, by rw [k18 5 (by omega), n18]; exact g5, by rw [k18 6 (by omega), n18]; exact g6, hms.2, fr_tr (fr_tr f1 f14 (S := [18, 20, 21, 22, 23]) (by decide) (by decide)) k5f (by decide) (by decide)⟩
  rw [Nat.zero_add, Nat.one_mul] at hPR
  rcases hPR with ⟨z, _⟩ | ⟨f, p1, p2, p3, p4, p5⟩
  · omega
  · rw [p2] at p3 p4
    exact ⟨f, p1, p2, p3, p4, p5⟩
theorem smv_mul (b : Nat → Int) (c : Int) : ∀ k, smv k (fun p => b p * c) = smv k b * c
  | 0 => by rw [smv, smv, Int.zero_mul]
  | k + 1 => by rw [smv, smv, smv_mul b c k, Int.add_mul]
def tn5 (N : Nat) : Int := tt N 0 (-1)
theorem tot_eq : tot b P N = smv P b * tn5 N := by
  show smv P (fun p => b p * tt N 0 (-1)) = _
  exact smv_mul b (tt N 0 (-1)) P
theorem x_least (hP : 0 < P ∧ P ≤ 8) (hN : 1 ≤ N ∧ N ≤ 5) (hb : ∀ p, p < P → 0 ≤ b p ∧ b p ≤ 999) (h5 : M 18 5 = P) (h6 : M 18 6 = N) (h19 : ∀ p, p < P → M 19 p = b p) (h7 : 0 ≤ M 18 7 ∧ M 18 7 ≤ 1000000) : f_Keeper_leastDirt M = some (tot b P N - M 18 7) := by
  have L : ∀ (k n q : Nat), q + k = P → k < n → f_Keeper_leastDirt_L4 M n (smv q b) q = some (smv P b) := by
    intro k
    induction k with
    | zero =>
      intro n q hq hn
      cases n with
      | zero => omega
      | succ n =>
        unfold f_Keeper_leastDirt_L4
        rw [if_pos (by omega), show q = P by omega]
    | succ k ih =>
      intro n q hq hn
      cases n with
      | zero => omega
      | succ n =>
        have b1 := smv_b q (fun p (hp : p < q) => hb p (by omega))
        have d1 := hb q (by omega)
        have := ih n (q + 1) (by omega) (by omega)
        unfold f_Keeper_leastDirt_L4
        rw [tn_nat, h19 q (by omega), if_neg (by omega), if_pos (by omega), i_ad_eq (a := smv q b) (by omega), i_ad_eq (a := (q : Int)) (by omega)]
        rw [smv, show ((q + 1 : Nat) : Int) = (q : Int) + 1 by omega] at this
        exact this
  have hs := smv_b P hb
  have := L P pm_F 0 (by omega) (by unfold pm_F; omega)
  rw [smv, show ((0 : Nat) : Int) = 0 from rfl] at this
  unfold f_Keeper_leastDirt
  rw [this, ob, h6, tot_eq]
  generalize smv P b = s at hs
  rcases (show N = 1 ∨ N = 2 ∨ N = 3 ∨ N = 4 ∨ N = 5 by omega) with rfl | rfl | rfl | rfl | rfl
  all_goals
    rw [i_ml_eq (a := s) (by omega), i_ad_eq (by omega), i_ml_eq (by omega), i_dv_eq (by omega) (by omega), i_sb_eq (by omega)]
    refine congrArg some ?_
    first
      | (rw [show tn5 1 = 1 from rfl]; omega)
      | (rw [show tn5 2 = 3 from rfl]; omega)
      | (rw [show tn5 3 = 6 from rfl]; omega)
      | (rw [show tn5 4 = 10 from rfl]; omega)
      | (rw [show tn5 5 = 15 from rfl]; omega)
-- the reference
theorem q_L36 (hP : 0 < P ∧ P ≤ 8) (hN : N ≤ 5) (h8 : M 88 0 = P) (y2 : Int) : ∀ (k n q : Nat), q + k = N → k < n → f_Q_rounds_L36 M n N y2 ((P ^ q : Nat) : Int) q = some ((N : Int), y2, ((P ^ N : Nat) : Int)) := by
  intro k
  induction k with
  | zero =>
    intro n q hq hn
    cases n with
    | zero => omega
    | succ n =>
      unfold f_Q_rounds_L36
      rw [if_pos (by omega), show q = N by omega]
  | succ k ih =>
    intro n q hq hn
    cases n with
    | zero => omega
    | succ n =>
      have hle : P ^ q ≤ 8 ^ 4 := Nat.le_trans (pw_le hP.2 q (by omega)) (Nat.pow_le_pow_right (by omega) (by omega))
      have := ih n (q + 1) (by omega) (by omega)
      have hm : 0 ≤ ((P ^ q : Nat) : Int) * (P : Int) ∧ ((P ^ q : Nat) : Int) * (P : Int) ≤ 4096 * 8 := mul_bd (by omega) (by omega)
      unfold f_Q_rounds_L36
      rw [if_neg (by omega), h8, i_ml_eq (by omega), i_ad_eq (by omega)]
      rw [Nat.pow_succ, show ((P ^ q * P : Nat) : Int) = ((P ^ q : Nat) : Int) * (P : Int) by simp, show ((q + 1 : Nat) : Int) = (q : Int) + 1 by omega] at this
      exact this
def RQ (V : Nat → Int) (T : Int) (x : Nat) (y4 y5 : Int) : Prop := (y4 = 0 ∧ y5 = 100000 ∧ ∀ j, j < x → 100000 ≤ T - V j) ∨ ∃ f : Nat, f < x ∧ y4 = f ∧ y5 = T - V f ∧ y5 < 100000 ∧ (∀ j, j < f → V j < V f) ∧ ∀ j, j < x → V j ≤ V f
theorem q_L130 (hP : 0 < P ∧ P ≤ 8) (hN : 1 ≤ N ∧ N ≤ 5) (hb : ∀ p, p < P → 0 ≤ b p ∧ b p ≤ 999) (y2 : Int) : ∀ (k n x : Nat) (y4 y5 : Int) (M : pm_M), x + k = P ^ N → k < n → M 88 0 = P → (∀ p, p < P → M 118 p = b p) → RQ (vv b P N) (tot b P N) x y4 y5 →
    ok (f_Q_rounds_L130 n N y2 ((P ^ N : Nat) : Int) y4 y5 x M) (fun z => ∃ y4' y5' M', z = ((N : Int), y2, y4', y5', M') ∧ RQ (vv b P N) (tot b P N) (P ^ N) y4' y5' ∧ fr [117] M M') := by
  have hle : P ^ N ≤ 8 ^ 5 := Nat.le_trans (pw_le hP.2 N hN.2) (Nat.pow_le_pow_right (by omega) hN.2)
  intro k
  induction k with
  | zero =>
    intro n x y4 y5 M hx hn h8 h118 hR
    cases n with
    | zero => omega
    | succ n =>
      unfold f_Q_rounds_L130
      refine ok_pos (by omega) (ok_some ⟨y4, y5, M, rfl, ?_, fr_rf _ _⟩)
      rw [show x = P ^ N by omega] at hR
      exact hR
  | succ k ih =>
    intro n x y4 y5 M hx hn h8 h118 hR
    cases n with
    | zero => omega
    | succ n =>
      unfold f_Q_rounds_L130
      refine ok_neg (by omega) (ok_bind (q_dirt hP hN hb h8 h118 (by omega)) ?_)
      rintro ⟨v, M1⟩ ⟨hv, hf⟩
      dsimp only at hv hf ⊢
      rw [i_ad_eq (by omega)]
      have go : ∀ y4' y5', RQ (vv b P N) (tot b P N) (x + 1) y4' y5' → ok (f_Q_rounds_L130 n N y2 ((P ^ N : Nat) : Int) y4' y5' ((x : Int) + 1) M1) (fun z => ∃ y4' y5' M', z = ((N : Int), y2, y4', y5', M') ∧ RQ (vv b P N) (tot b P N) (P ^ N) y4' y5' ∧ fr [117] M M') := by
        intro y4' y5' h
        refine ok_mono (ih n (x + 1) y4' y5' M1 (by omega) (by omega) (by rw [hf 88 (by decide)]; exact h8) (fun p hp => by rw [hf 118 (by decide)]; exact h118 p hp) h) ?_
        rintro z ⟨a, c, M', h1, h2, h3⟩
        exact ⟨a, c, M', h1, h2, fr_2 hf h3⟩
      refine ok_ite (fun h => go y4 y5 ?_) (fun h => go x v ?_)
      · rcases hR with ⟨r1, r2, r3⟩ | ⟨f, r1, r2, r3, r4, r5, r6⟩
        · refine Or.inl ⟨r1, r2, fun j hj => ?_⟩
          by_cases e : j = x
          · rw [e]; omega
          · exact r3 j (by omega)
        · refine Or.inr ⟨f, by omega, r2, r3, r4, r5, fun j hj => ?_⟩
          by_cases e : j = x
          · rw [e]; omega
          · exact r6 j (by omega)
      · rcases hR with ⟨r1, r2, r3⟩ | ⟨f, r1, r2, r3, r4, r5, r6⟩
        · refine Or.inr ⟨x, by omega, rfl, hv, by omega, fun j hj => ?_, fun j hj => ?_⟩
          · have := r3 j hj; omega
          · by_cases e : j = x
            · rw [e]; omega
            · have := r3 j (by omega); omega
        · refine Or.inr ⟨x, by omega, rfl, hv, by omega, fun j hj => ?_, fun j hj => ?_⟩
          · have := r6 j hj; omega
          · by_cases e : j = x
            · rw [e]; omega
            · have := r6 j (by omega); omega
/-- some round leaves less than a hundred thousand -/
theorem tot_lt (hP : 0 < P ∧ P ≤ 8) (hN : 1 ≤ N ∧ N ≤ 5) (hb : ∀ p, p < P → 0 ≤ b p ∧ b p ≤ 999) : ∃ j, j < P ^ N ∧ tot b P N - vv b P N j < 100000 := by
  have hs := smv_b P hb
  have hpos := pw_pos hP.1 N
  have h0 : 0 ≤ vv b P N 0 := spa_b hb (by omega) N 0 cl0 0 hpos (fun p hp => by unfold cl0; omega) (by omega)
  by_cases h : N = 5
  · subst h
    by_cases h2 : P ≤ 6
    · refine ⟨0, hpos, ?_⟩
      rw [tot_eq, show tn5 5 = 15 from rfl]; omega
    · have hb0 := hb 0 (by omega)
      have hb1 := hb 1 (by omega)
      have hb2 := hb 2 (by omega)
      have hb3 := hb 3 (by omega)
      have hb4 := hb 4 (by omega)
      have hb5 := hb 5 (by omega)
      have hb6 := hb 6 (by omega)
      have key : spa b 0 cl0 [0, 1, 2, 3, 4] = b 0 * 5 + b 1 * 8 + b 2 * 9 + b 3 * 8 + b 4 * 5 := by
        simp [spa, aS, cl0]
        omega
      rcases (show P = 7 ∨ P = 8 by omega) with rfl | rfl
      · refine ⟨466, by decide, ?_⟩
        have e : vv b 7 5 466 = spa b 0 cl0 [0, 1, 2, 3, 4] := rfl
        rw [tot_eq, show tn5 5 = 15 from rfl, e, key]
        simp only [smv]
        omega
      · have hb7 := hb 7 (by omega)
        refine ⟨668, by decide, ?_⟩
        have e : vv b 8 5 668 = spa b 0 cl0 [0, 1, 2, 3, 4] := rfl
        rw [tot_eq, show tn5 5 = 15 from rfl, e, key]
        simp only [smv]
        omega
  · refine ⟨0, hpos, ?_⟩
    rw [tot_eq]
    rcases (show N = 1 ∨ N = 2 ∨ N = 3 ∨ N = 4 by omega) with rfl | rfl | rfl | rfl
    · rw [show tn5 1 = 1 from rfl]; omega
    · rw [show tn5 2 = 3 from rfl]; omega
    · rw [show tn5 3 = 6 from rfl]; omega
    · rw [show tn5 4 = 10 from rfl]; omega
theorem q_L179 (hP : 0 < P ∧ P ≤ 8) (h8 : M 88 0 = P) (y2 : Nat) : ∀ (k n f : Nat) (y6 : Int), y6 = (y2 : Int) + k → k ≤ 5 → y2 ≤ 5 → k < n → f ≤ 100000 → f_Q_rounds_L179 M n y2 f y6 = some ((f / P ^ k : Nat) : Int) := by
  intro k
  induction k with
  | zero =>
    intro n f y6 hy hk h2 hn hf
    cases n with
    | zero => omega
    | succ n =>
      unfold f_Q_rounds_L179
      rw [if_pos (by omega), Nat.pow_zero, Nat.div_one]
  | succ k ih =>
    intro n f y6 hy hk h2 hn hf
    cases n with
    | zero => omega
    | succ n =>
      have hd : f / P ≤ f := Nat.div_le_self _ _
      unfold f_Q_rounds_L179
      rw [if_neg (by omega), h8, if_neg (by omega), i_dv_eq (by omega) (by omega), i_ad_eq (by omega), show ((f : Int) / (P : Int)) = ((f / P : Nat) : Int) by omega, ih n (f / P) _ (by omega) (by omega) h2 (by omega) (by omega), Nat.div_div_eq_div_mul, Nat.pow_succ, Nat.mul_comm P]
end
