/-! BEST: the class's answer -/
section
variable {A : Nat → Int} {M0 : pm_M} {P H n : Nat}
theorem x_s78 (hA : WF A) (hX : TXS M0 (A 2)) (hH : A 1 = H) (hP : A 0 = P) (hn : n = H + P) {mt : Nat → Nat} {Mz : pm_M} (h67 : Mz 67 11 = n) (hm1 : ∀ p, p < P → 1 ≤ mt p ∧ mt p ≤ n ∧ Mz 73 (mt p) = ((p + 1 : Nat) : Int)) (hm3 : ∀ k, 1 ≤ k → k ≤ n → (Mz 73 k ≠ 0 ↔ ∃ p, p < P ∧ mt p = k)) (hw : ∀ p, p < P → wRow M0 A p (n + 1) Mz) (hC : CX 24 36 1 A Mz) : ∀ (t nn q : Nat) (M : pm_M), q + t = n → t < nn → fr [67, 76] Mz M → M 67 11 = n → M 67 12 = smv q (fun k => if Mz 73 (k + 1) = 0 then 0 else Mz 68 (21 * (Mz 73 (k + 1)).toNat + (k + 1))) → (∀ p, p < P → mt p ≤ q → M 76 p = if mt p ≤ H then (mt p : Int) - 1 else -1) → ok (f_Placing_solve_L78 nn ((q + 1 : Nat) : Int) M) (fun M' => M' 67 12 = smv n (fun k => if Mz 73 (k + 1) = 0 then 0 else Mz 68 (21 * (Mz 73 (k + 1)).toNat + (k + 1))) ∧ (∀ p, p < P → M' 76 p = if mt p ≤ H then (mt p : Int) - 1 else -1) ∧ fr [67, 76] Mz M') := by
  have w0 := hA.1
  have w1 := hA.2.1
  have gb : ∀ k, k < n → -999 ≤ (fun k => if Mz 73 (k + 1) = 0 then 0 else Mz 68 (21 * (Mz 73 (k + 1)).toNat + (k + 1))) k ∧ (fun k => if Mz 73 (k + 1) = 0 then 0 else Mz 68 (21 * (Mz 73 (k + 1)).toNat + (k + 1))) k ≤ 999 := by
    intro k hk
    dsimp only
    by_cases e : Mz 73 (k + 1) = 0
    · rw [if_pos e]; omega
    · rw [if_neg e]
      obtain ⟨p, hp, hpk⟩ := (hm3 (k + 1) (by omega) (by omega)).mp e
      have h1 := (hm1 p hp).2.2
      rw [hpk] at h1
      rw [h1, tn_nat, (hw p hp (k + 1) (by omega) (by omega)).1]
      exact Wt_b hA hX (by omega) (by omega)
  have sb : ∀ q, q ≤ n → -999 * (q : Int) ≤ smv q (fun k => if Mz 73 (k + 1) = 0 then 0 else Mz 68 (21 * (Mz 73 (k + 1)).toNat + (k + 1))) ∧ smv q (fun k => if Mz 73 (k + 1) = 0 then 0 else Mz 68 (21 * (Mz 73 (k + 1)).toNat + (k + 1))) ≤ 999 * q := by
    intro q
    induction q with
    | zero => intro _; rw [smv]; omega
    | succ q ih => intro hq; have := ih (by omega); have := gb q (by omega); dsimp only at this; rw [smv]; omega
  intro t
  induction t with
  | zero =>
    intro nn q M hq hnn hf h11 h12 h76
    cases nn with
    | zero => omega
    | succ nn =>
      unfold f_Placing_solve_L78
      rw [h11]
      rw [show q = n by omega] at h12 h76
      exact ok_pos (by omega) (ok_some ⟨h12, fun p hp => h76 p hp (hm1 p hp).2.1, hf⟩)
  | succ t ih =>
    intro nn q M hq hnn hf h11 h12 h76
    cases nn with
    | zero => omega
    | succ nn =>
      have sq := sb q (by omega)
      have sq1 := sb (q + 1) (by omega)
      have m73 : M 73 = Mz 73 := hf 73 (by decide)
      have m68 : M 68 = Mz 68 := hf 68 (by decide)
      unfold f_Placing_solve_L78 f_Told_heads
      rw [h11, tn_nat, m73, i_ad_eq (a := ((q + 1 : Nat) : Int)) (by omega), show ((q + 1 : Nat) : Int) + 1 = ((q + 1 + 1 : Nat) : Int) by omega]
      refine ok_neg (by omega) (ok_pos (by omega) ?_)
      by_cases e : Mz 73 (q + 1) = 0
      · refine ok_pos (by omega) (ih nn (q + 1) M (by omega) (by omega) hf h11 ?_ (fun p hp hpq => ?_))
        · rw [smv, if_pos e, h12]; omega
        · refine h76 p hp ?_
          apply Classical.byContradiction
          intro hne
          exact (hm3 (q + 1) (by omega) (by omega)).mpr ⟨p, hp, by omega⟩ e
      · obtain ⟨p, hp, hpk⟩ := (hm3 (q + 1) (by omega) (by omega)).mp e
        have hro := (hm1 p hp).2.2
        rw [hpk] at hro
        have hwt := (hw p hp (q + 1) (by omega) (by omega)).1
        have hwb := Wt_b hA hX (p := p) (k := q + 1) (by omega) (by omega)
        have same : ∀ p', p' < P → mt p' = q + 1 → p' = p := fun p' hp' he => by
          have := (hm1 p' hp').2.2
          rw [he, hro] at this
          omega
        have hC' : CX 24 36 1 A M := CX_fr hf (by decide) hC
        rw [hro, hC'.1.1.2.1, hH]
        refine ok_neg (by omega) (ok_be rfl ?_)
        rw [i_sb_eq (by omega), show (((p + 1 : Nat) : Int) - 1) = (p : Int) by omega]
        have go : ∀ v : Int, v = (if mt p ≤ H then (mt p : Int) - 1 else -1) → ok (pm_bd (pm_ms M 76 p v) fun M421 => (f_Placing_place ((p + 1 : Nat) : Int) ((q + 1 : Nat) : Int) M421).bind fun r422 => if 0 ≤ r422 ∧ r422 < 189 then (pm_bd (pm_ms M421 67 12 (i_ad (M421 67 12) (M421 68 (r422).toNat))) fun M423 => f_Placing_solve_L78 nn ((q + 1 + 1 : Nat) : Int) M423) else none) (fun M' => M' 67 12 = smv n (fun k => if Mz 73 (k + 1) = 0 then 0 else Mz 68 (21 * (Mz 73 (k + 1)).toNat + (k + 1))) ∧ (∀ p, p < P → M' 76 p = if mt p ≤ H then (mt p : Int) - 1 else -1) ∧ fr [67, 76] Mz M') := by
          intro v hv
          unfold f_Placing_place
          refine ok_bd ?_
          rw [i_ml_eq (by omega), i_ad_eq (by omega), ob, show (((p + 1 : Nat) : Int) * 21 + ((q + 1 : Nat) : Int)).toNat = 21 * (p + 1) + (q + 1) by omega, pm_ms_ne (show (67 : Nat) ≠ 76 by omega), pm_ms_ne (show (68 : Nat) ≠ 76 by omega), m68, hwt, h12, i_ad_eq (by omega)]
          refine ok_pos (by omega) (ok_bd ?_)
          refine ih nn (q + 1) _ (by omega) (by omega) (fr_2 (fr_2 hf (fr_ms (by decide))) (fr_ms (by decide))) (by rw [msc, aSn, if_neg (by omega), pm_ms_ne (by omega)]; exact h11) ?_ (fun p' hp' hpq => ?_)
          · rw [msc, aSn, if_pos rfl, smv, if_neg e, hro, tn_nat, hwt]
          · rw [pm_ms_ne (by omega), msc, aSn]
            by_cases ep : p' = p
            · rw [if_pos ep, ep]; exact hv
            · rw [if_neg ep]
              refine h76 p' hp' ?_
              apply Classical.byContradiction
              intro hne
              exact ep (same p' hp' (by omega))
        rw [tn_nat]
        refine ok_ite (fun g => ok_pos (by omega) (go (-1) ?_)) (fun g => ok_pos (by omega) ?_)
        · rw [if_neg (by omega)]
        · rw [i_sb_eq (by omega)]
          exact go _ (by rw [if_pos (by omega), hpk])
/-- what the class has found -/
def PLC (M0 : pm_M) (A : Nat → Int) (P H : Nat) (C : Nat → Nat → Int) (M : pm_M) : Prop := ∃ mt : Nat → Nat, (∀ p, p < P → 1 ≤ mt p ∧ mt p ≤ H + P) ∧ (∀ p p', p < P → p' < P → mt p = mt p' → p = p') ∧ (∀ m : Nat → Nat, (∀ p, p < P → 1 ≤ m p ∧ m p ≤ H + P) → (∀ p p', p < P → p' < P → m p = m p' → p = p') → smv P (fun p => C (p + 1) (mt p)) ≤ smv P (fun p => C (p + 1) (m p))) ∧ (∀ p, p < P → M 76 p = if mt p ≤ H then (mt p : Int) - 1 else -1) ∧ M 67 12 = smv P (fun p => Wt M0 A p (mt p))
theorem x_solve (hA : WF A) (hX : TXS M0 (A 2)) (hH : A 1 = H) (hP : A 0 = P) {M : pm_M} (hC : CX 24 36 1 A M) (hK : KA M0 M) : ok (f_Placing_solve M) (fun M' => PLC M0 A P H (Cs M0 A) M' ∧ fr [65, 67, 68, 69, 70, 71, 72, 73, 74, 75, 76] M M') := by
  have w0 := hA.1
  have w1 := hA.2.1
  unfold f_Placing_solve f_Told_heads f_Told_plinths
  rw [hC.1.1.2.1, hC.1.1.1, hH, hP]
  refine ok_be rfl (ok_be rfl ?_)
  rw [i_ad_eq (by omega), show (H : Int) + (P : Int) = ((H + P : Nat) : Int) by omega]
  refine ok_bd ?_
  generalize hM1 : pm_ms M 67 11 ((H + P : Nat) : Int) = M1
  have f1 : fr [67] M M1 := by rw [← hM1]; exact fr_ms (by decide)
  have e11 : M1 67 11 = ((H + P : Nat) : Int) := by rw [← hM1, msc, aSn, if_pos rfl]
  have hC1 := CX_fr f1 (by decide) hC
  unfold f_Placing_weigh
  have hw6 := x_w6 (n := H + P) hA hX hH hP rfl P pm_F 0 62748517 M1 (by omega) (by unfold pm_F; omega) (fun _ => rfl) e11 hC1 (KA_fr f1 (by decide) hK) (fun p' h => by omega)
  rw [show ((0 : Nat) : Int) = 0 from rfl] at hw6
  refine ok_bind (ok_bind hw6 (fun M' h => ok_some h)) (fun M2 h2 => ?_)
  unfold f_Arrays_fill2_70 f_Arrays_fill2_71 f_Arrays_fill_73
  have h70 := x_f70 9 pm_F 0 M2 (by omega) (by unfold pm_F; omega) (fun k hk => by omega)
  rw [show ((0 : Nat) : Int) = 0 from rfl] at h70
  refine ok_bind (ok_bind h70 (fun M' h => ok_some h)) (fun M3 h3 => ?_)
  have h71 := x_f71 21 pm_F 0 M3 (by omega) (by unfold pm_F; omega) (fun k hk => by omega)
  rw [show ((0 : Nat) : Int) = 0 from rfl] at h71
  refine ok_bind (ok_bind h71 (fun M' h => ok_some h)) (fun M4 h4 => ?_)
  have h73 := x_f73 21 pm_F 0 M4 (by omega) (by unfold pm_F; omega) (fun k hk => by omega)
  rw [show ((0 : Nat) : Int) = 0 from rfl] at h73
  refine ok_bind (ok_bind h73 (fun M' h => ok_some h)) (fun M5 h5 => ?_)
  have f25 : fr [70, 71, 73] M2 M5 := fr_tr (fr_tr h3.2 h4.2 (S := [70, 71, 73]) (by decide) (by decide)) h5.2 (by decide) (by decide)
  have f15 : fr [65, 68, 69, 70, 71, 73] M1 M5 := fr_tr h2.2 f25 (by decide) (by decide)
  have u0 : ∀ r, r ≤ 8 → uX M5 r = 0 := fun r hr => by unfold uX; rw [h5.2 70 (by decide), h4.2 70 (by decide)]; exact h3.1 r (by omega)
  have v0 : ∀ k, k ≤ 20 → vX M5 k = 0 := fun k hk => by unfold vX; rw [h5.2 71 (by decide)]; exact h4.1 k (by omega)
  have z73 : ∀ k, k ≤ 20 → M5 73 k = 0 := fun k hk => h5.1 k (by omega)
  have hw5 : ∀ p, p < P → wRow M0 A p (H + P + 1) M5 := fun p hp k x y => by rw [f25 68 (by decide), f25 69 (by decide)]; exact h2.1 p hp k x y
  have hHM : HM (H + P) P 1 (Cs M0 A) M5 := by
    refine ⟨by rw [f15 67 (by decide)]; exact e11, fun r k a b c d => ?_, fun k x y => by rw [z73 k (by omega)]; omega, ⟨fun _ => 0, fun r a b => by omega, fun k x y z => absurd (z73 k (by omega)) z⟩, ?_, fun r k a b => by omega, fun k x y => by rw [v0 k (by omega)]; unfold cK; omega, fun r x y => by rw [u0 r y]; unfold cK; omega, fun r x y => u0 r y⟩
    · have := (hw5 (r - 1) (by omega) k c (by omega)).2
      rw [show r - 1 + 1 = r by omega] at this
      exact this
    · have e : smv (H + P) (fun k => if M5 73 (k + 1) = 0 then 0 else 1) = smv (H + P) (fun _ => 0) := smv_congr _ (fun k hk => by rw [if_pos (z73 (k + 1) (by omega))])
      have z := smv_b (f := fun _ => 0) (B := 0) (H + P) (fun _ _ => by omega)
      rw [e]; omega
  have h49 := x_s49 (n := H + P) hA hP (by omega) (by omega) (Cs_b hA hX hP) P pm_F 1 M5 (by omega) (by omega) (by unfold pm_F; omega) (CX_fr f15 (by decide) hC1) hHM
  rw [show ((1 : Nat) : Int) = 1 from rfl] at h49
  refine ok_bind h49 (fun M6 h6 => ok_bd ?_)
  obtain ⟨mt, m1, m2, m3, m4⟩ := HM_opt h6.1
  generalize hM7 : pm_ms M6 67 12 0 = M7
  have f7 : fr [67] M6 M7 := by rw [← hM7]; exact fr_ms (by decide)
  have f17 : fr [65, 67, 68, 69, 70, 71, 72, 73, 74, 75] M1 M7 := fr_tr (fr_tr f15 h6.2 (S := [65, 67, 68, 69, 70, 71, 72, 73, 74, 75]) (by decide) (by decide)) f7 (by decide) (by decide)
  have hw7 : ∀ p, p < P → wRow M0 A p (H + P + 1) M7 := fun p hp k x y => by rw [f7 68 (by decide), f7 69 (by decide), h6.2 68 (by decide), h6.2 69 (by decide)]; exact hw5 p hp k x y
  have m73 : M7 73 = M6 73 := f7 73 (by decide)
  have e67 : M7 67 11 = ((H + P : Nat) : Int) := by rw [← hM7, msc, aSn, if_neg (by omega)]; exact h6.1.1
  have h78 := x_s78 (n := H + P) hA hX hH hP rfl (mt := mt) (Mz := M7) e67 (by rw [m73]; exact m1) (by rw [m73]; exact m3) hw7 (CX_fr f17 (by decide) hC1) (H + P) pm_F 0 M7 (by omega) (by unfold pm_F; omega) (fr_rf _ _) e67 (by rw [← hM7, msc, aSn, if_pos rfl]; rfl) (fun p hp hq => by have := (m1 p hp).1; omega)
  rw [show ((0 + 1 : Nat) : Int) = 1 from rfl] at h78
  refine ok_bind h78 (fun M8 h8 => ok_some ⟨⟨mt, fun p hp => ⟨(m1 p hp).1, (m1 p hp).2.1⟩, m2, m4, h8.2.1, ?_⟩, fr_tr (fr_tr f1 f17 (S := [65, 67, 68, 69, 70, 71, 72, 73, 74, 75, 76]) (by decide) (by decide)) h8.2.2 (by decide) (by decide)⟩)
  rw [h8.1]
  have sc := sum_cols (P := P) (n := H + P) mt (fun k => M7 68 (21 * (M7 73 k).toNat + k)) (M7 73) m2 (fun r hr => (m1 r hr).1) (by rw [m73]; exact m3) (H + P) (Nat.le_refl _)
  rw [sc]
  refine smv_congr P (fun p hp => ?_)
  rw [if_pos (m1 p hp).2.1, m73, (m1 p hp).2.2, tn_nat]
  exact (hw7 p hp (mt p) (m1 p hp).1 (by have := (m1 p hp).2.1; omega)).1
end
