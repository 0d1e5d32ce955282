/-! ROUNDS: both sides -/
section
variable {M : pm_M} {P N : Nat} {b : Nat → Int} {B : Int}
/-- the keeper's cells as they are behind a try -/
def kpK (P : Nat) (d : Nat) (M M' : pm_M) : Prop := (∀ p, p < P → M' 20 p = M 20 p) ∧ (∀ e, e < d → M' 21 e = M 21 e) ∧ (∀ i, i ≠ 7 → M' 18 i = M 18 i) ∧ fr [18, 20, 21, 22] M M'
theorem x_clean (hP : 0 < P ∧ P ≤ 8) (hN : 1 ≤ N ∧ N ≤ 5) (hb : ∀ p, p < P → 0 ≤ b p ∧ b p ≤ B) (hB : 0 ≤ B ∧ B ≤ 999) : ∀ (m kf d q : Nat) (s : Int) (cl : Nat → Int) (M : pm_M), d + m = N → m < kf → 0 ≤ s → s ≤ 24975 * d → M 18 5 = P → M 18 6 = N → (∀ p, p < P → M 19 p = b p) → (∀ p, p < P → M 20 p = cl p) → (∀ p, p < P → -1 ≤ cl p ∧ cl p < d) → (∀ e, e ≤ N → M 23 e = hop B N (N - e)) → (∀ e, e < d → M 21 e = ((q / P ^ (d - 1 - e) % P : Nat) : Int)) → (∀ k, k < P ^ m → vv b P N (q * P ^ m + k) = s + spa b d cl (dg P m k)) → (-1 ≤ M 18 7 ∧ M 18 7 ≤ 1000000) → PR P N (vv b P N) (q * P ^ m) (M 18 7) (M 22) →
    ok (f_Keeper_clean_r kf d s M) (fun M' => PR P N (vv b P N) ((q + 1) * P ^ m) (M' 18 7) (M' 22) ∧ (-1 ≤ M' 18 7 ∧ M' 18 7 ≤ 1000000) ∧ kpK P d M M') := by
  intro m
  induction m with
  | zero =>
    intro kf d q s cl M hd hkf hs1 hs2 h5 h6 h19 h20 hcl h23 h21 hV hms hPR
    cases kf with
    | zero => omega
    | succ kf =>
      rw [f_Keeper_clean_r]
      unfold f_Keeper_clean
      have e23 := h23 d (by omega)
      rw [show N - d = 0 by omega, hop] at e23
      rw [tn_nat, e23, i_ad_eq (by omega), h6]
      have hq : vv b P N q = s := by
        have := hV 0 (by simp)
        rw [dg, spa, Nat.pow_zero, Nat.mul_one, Nat.add_zero] at this
        omega
      rw [Nat.pow_zero, Nat.mul_one] at hPR ⊢
      refine ok_pos (by omega) (ok_ite (fun h1 => ok_neg (by omega) (ok_bd ?_)) (fun h1 => ok_some ?_))
      · have e6 : (pm_ms M 18 7 s) 18 6 = N := by rw [msc, aSn, if_neg (by omega)]; exact h6
        rw [e6, tn_nat]
        refine ok_pos (by omega) (ok_bd (ok_some ?_))
        have c18 : (pm_cp (pm_ms M 18 7 s) 21 22 0 0 N) 18 = aS (M 18) 7 s := by rw [cpn, if_neg (by omega), msc]
        have c22 : ∀ e, e < N → (pm_cp (pm_ms M 18 7 s) 21 22 0 0 N) 22 e = M 21 e := fun e he => by
          rw [cpn, if_pos rfl]
          have := cp0 (f := (pm_ms M 18 7 s) 21) (g := (pm_ms M 18 7 s) 22) he
          rw [this, msn, if_neg (by omega)]
        refine ⟨?_, ?_, ⟨fun p _ => ?_, fun e he => ?_, fun i hi => ?_, ?_⟩⟩
        · rw [c18, aSn, if_pos rfl]
          refine Or.inr ⟨q, by omega, hq.symm, fun j hj => ?_, fun j hj => ?_, fun e he => ?_⟩
          · rcases hPR with ⟨z, _⟩ | ⟨f, _, _, _, z, _⟩
            · omega
            · have := z j hj; omega
          · by_cases hjq : j = q
            · rw [hjq, hq]; omega
            · rcases hPR with ⟨z, _⟩ | ⟨f, _, _, _, z, _⟩
              · omega
              · have := z j (by omega); omega
          · rw [c22 e he, h21 e (by omega), show d - 1 - e = N - 1 - e by omega]
        · rw [c18, aSn, if_pos rfl]; omega
        · rw [cpn, if_neg (by omega), msn, if_neg (by omega)]
        · rw [cpn, if_neg (by omega), msn, if_neg (by omega)]
        · rw [c18, aSn, if_neg hi]
        · exact fr_2 (fr_ms (by decide)) (fr_cp (by decide))
      · refine ⟨PR_ext hPR (by omega) (by omega) (fun j h2 h3 => ?_), hms, fun _ _ => rfl, fun _ _ => rfl, fun _ _ => rfl, fr_rf _ _⟩
        rw [show j = q by omega, hq]; omega
  | succ m ih =>
    intro kf d q s cl M hd hkf hs1 hs2 h5 h6 h19 h20 hcl h23 h21 hV hms hPR
    cases kf with
    | zero => omega
    | succ kf =>
      have hpm := pw_pos hP.1 m
      rw [f_Keeper_clean_r]
      unfold f_Keeper_clean
      have e23 := h23 d (by omega)
      rw [show N - d = m + 1 by omega] at e23
      have hhb := hop_b hB hN.2 (m + 1) (by omega)
      rw [tn_nat, e23, i_ad_eq (by omega), h6]
      refine ok_pos (by omega) (ok_ite (fun h1 => ok_pos (by omega) ?_) (fun h1 => ok_some ?_))
      · have L : ∀ (t n c : Nat) (M1 : pm_M), c + t = P → t < n → kpK P d M M1 → (-1 ≤ M1 18 7 ∧ M1 18 7 ≤ 1000000) → PR P N (vv b P N) ((q * P + c) * P ^ m) (M1 18 7) (M1 22) →
            ok (f_Keeper_clean_L49 (f_Keeper_clean_r kf) n d s c M1) (fun M' => PR P N (vv b P N) ((q * P + P) * P ^ m) (M' 18 7) (M' 22) ∧ (-1 ≤ M' 18 7 ∧ M' 18 7 ≤ 1000000) ∧ kpK P d M M') := by
          intro t
          induction t with
          | zero =>
            intro n c M1 hc hn hk hms1 hPR1
            cases n with
            | zero => omega
            | succ n =>
              unfold f_Keeper_clean_L49
              rw [hk.2.2.1 5 (by omega), h5]
              refine ok_pos (by omega) (ok_some ⟨?_, hms1, hk⟩)
              rw [show c = P by omega] at hPR1
              exact hPR1
          | succ t iht =>
            intro n c M1 hc hn hk hms1 hPR1
            cases n with
            | zero => omega
            | succ n =>
              obtain ⟨k20, k21, k18, kf1⟩ := id hk
              have hcl' := hcl c (by omega)
              have hbc := hb c (by omega)
              have e19 : M1 19 c = b c := by rw [kf1 19 (by decide)]; exact h19 c (by omega)
              have e20 : M1 20 c = cl c := (k20 c (by omega)).trans (h20 c (by omega))
              have e186 : M1 18 6 = N := (k18 6 (by omega)).trans h6
              have p1 := mul_bd hbc (b := (d : Int) - cl c) (B := (d : Int) + 1) (by omega)
              have p1' : b c * ((d : Int) - cl c) ≤ 999 * 5 := by
                have := (mul_bd (a := b c) (A := 999) (by omega) (b := (d : Int) - cl c) (B := 5) (by omega)).2
                omega
              have p2 := mul_bd (a := b c * ((d : Int) - cl c)) (A := 4995) (by omega) (b := (N : Int) - d) (B := 5) (by omega)
              unfold f_Keeper_clean_L49
              rw [k18 5 (by omega), h5]
              simp only [tn_nat, msn, if_pos, if_neg (show ¬ ((19 : Nat) = 20) by omega), if_neg (show ¬ ((19 : Nat) = 21) by omega), if_neg (show ¬ ((18 : Nat) = 20) by omega), if_neg (show ¬ ((18 : Nat) = 21) by omega), e19, e20, e186, pm_bd]
              rw [i_sb_eq (a := (d : Int)) (by omega), i_sb_eq (a := (N : Int)) (by omega), i_ml_eq (a := b c) (by omega), i_ml_eq (by omega), i_ad_eq (a := s) (by omega), i_ad_eq (a := (d : Int)) (by omega), i_ad_eq (a := (c : Int)) (by omega)]
              refine ok_neg (by omega) (ok_pos (by omega) (ok_pos (by omega) (ok_pos (by omega) (ok_pos (by omega) ?_))))
              generalize hM3 : pm_ms (pm_ms M1 21 d (c : Int)) 20 c (d : Int) = M3
              have f3 : fr [20, 21] M1 M3 := by rw [← hM3]; exact fr_tr (S1 := [21]) (S2 := [20]) (fr_ms (by decide)) (fr_ms (by decide)) (by decide) (by decide)
              have g3 : fr [18, 20, 21, 22] M M3 := fr_tr kf1 f3 (by decide) (by decide)
              have m20 : ∀ p, p < P → M3 20 p = aS cl c d p := by
                intro p hp
                have e2 : (pm_ms M1 21 d (c : Int)) 20 = M1 20 := pm_ms_ne (by omega)
                rw [← hM3, msc, e2, aSn, aSn, k20 p hp, h20 p hp]
              have m21 : M3 21 = aS (M1 21) d c := by rw [← hM3, msn, if_neg (by omega), msc]
              have m18 : M3 18 = M1 18 := f3 18 (by decide)
              have m22 : M3 22 = M1 22 := f3 22 (by decide)
              refine ok_bind (ih kf (d + 1) (q * P + c) (s + b c * ((d : Int) - cl c) * ((N : Int) - d)) (aS cl c d) M3 (by omega) (by omega) (by omega) (by omega) (by rw [m18, k18 5 (by omega)]; exact h5) (by rw [m18]; exact e186) (fun p hp => by rw [g3 19 (by decide)]; exact h19 p hp) m20 (fun p hp => ?_) (fun e he => by rw [g3 23 (by decide)]; exact h23 e he) (fun e he => ?_) (fun k hk' => ?_) (by rw [m18]; exact hms1) (by rw [m18, m22]; exact hPR1)) ?_
              · rw [aSn]; have := hcl p hp; split <;> omega
              · rw [m21, aSn, q_dig hP.1 (by omega) he]
                by_cases h : e = d
                · rw [if_pos h, if_pos h]
                · rw [if_neg h, if_neg h, k21 e (by omega), h21 e (by omega)]
              · have hlt : c * P ^ m + k < P ^ (m + 1) := by
                  rw [Nat.pow_succ, Nat.mul_comm (P ^ m)]
                  have : (c + 1) * P ^ m ≤ P * P ^ m := Nat.mul_le_mul_right _ (by omega)
                  rw [Nat.add_mul, Nat.one_mul] at this
                  omega
                have := hV (c * P ^ m + k) hlt
                rw [dg_c hk', spa, dg_len] at this
                have e1 : (q * P + c) * P ^ m + k = q * P ^ (m + 1) + (c * P ^ m + k) := by
                  rw [Nat.pow_succ, Nat.add_mul, Nat.mul_assoc, Nat.mul_comm P, Nat.add_assoc]
                rw [e1, this, show (N : Int) - d = (m : Int) + 1 by omega, show ((d + 1 : Nat) : Int) = (d : Int) + 1 by omega]
                omega
              · rintro M4 ⟨r1, r2, k420, k421, k418, k4f⟩
                refine ok_pos (by omega) ?_
                have f5 : fr [20] M4 (pm_ms M4 20 c (cl c)) := fr_ms (by decide)
                have f4 : fr [18, 20, 21, 22] M M4 := fr_2 g3 k4f
                have e4 : (q * P + c + 1) * P ^ m = (q * P + (c + 1)) * P ^ m := by rw [Nat.add_assoc]
                refine iht n (c + 1) _ (by omega) (by omega) ⟨fun p hp => ?_, fun e he => ?_, fun i hi => ?_, fr_2 f4 (fr_mo f5 (by decide))⟩ (by rw [f5 18 (by decide)]; exact r2) (by rw [f5 18 (by decide), f5 22 (by decide), ← e4]; exact r1)
                · rw [msc, aSn]
                  by_cases h : p = c
                  · rw [if_pos h, h, h20 c (by omega)]
                  · rw [if_neg h, k420 p hp, m20 p hp, aSn, if_neg h, h20 p hp]
                · rw [f5 21 (by decide), k421 e (by omega), m21, aSn, if_neg (by omega), k21 e he]
                · rw [f5 18 (by decide), k418 i hi, m18, k18 i hi]
        have e0 : (q * P + P) * P ^ m = (q + 1) * P ^ (m + 1) := by rw [Nat.pow_succ, Nat.mul_comm (P ^ m), ← Nat.mul_assoc, Nat.add_mul q 1, Nat.one_mul]
        have e1 : q * P ^ (m + 1) = (q * P + 0) * P ^ m := by rw [Nat.pow_succ, Nat.mul_comm (P ^ m), ← Nat.mul_assoc, Nat.add_zero]
        rw [e1] at hPR
        rw [← e0]
        exact ok_bind (L P pm_F 0 M (by omega) (by unfold pm_F; omega) ⟨fun _ _ => rfl, fun _ _ => rfl, fun _ _ => rfl, fr_rf _ _⟩ hms hPR) (fun M' h => ok_some h)
      · refine ⟨PR_ext hPR (by omega) (Nat.mul_le_mul_right _ (by omega)) (fun j h2 h3 => ?_), hms, fun _ _ => rfl, fun _ _ => rfl, fun _ _ => rfl, fr_rf _ _⟩
        rw [Nat.add_mul, Nat.one_mul] at h3
        obtain ⟨k, ek⟩ : ∃ k, j = q * P ^ (m + 1) + k := ⟨j - q * P ^ (m + 1), by omega⟩
        have := hV k (by omega)
        rw [ek, this]
        have := spa_h (N := N) hb hB (m + 1) d cl k hd (by omega) hcl
        omega
end
