/-! BEST: the class's weights, and its answer -/
def dW : Nat → Int
  | 0 => 62748517
  | 1 => 4826809
  | 2 => 371293
  | 3 => 28561
  | 4 => 2197
  | 5 => 169
  | 6 => 13
  | _ => 1
noncomputable def Wt (M0 : pm_M) (A : Nat → Int) (p k : Nat) : Int := if (k : Int) ≤ A 1 then am M0 1 A p ((k : Int) - 1) - am M0 0 A p ((k : Int) - 1) else am M0 3 A p (-1)
noncomputable def Cs (M0 : pm_M) (A : Nat → Int) (r k : Nat) : Int := (if (k : Int) ≤ A 1 then (k : Int) * dW (r - 1) else 0) - Wt M0 A (r - 1) k * 815730721
theorem dW_b (p : Nat) : 1 ≤ dW p ∧ dW p ≤ 62748517 := by
  rcases (show p = 0 ∨ p = 1 ∨ p = 2 ∨ p = 3 ∨ p = 4 ∨ p = 5 ∨ p = 6 ∨ 7 ≤ p by omega) with rfl | rfl | rfl | rfl | rfl | rfl | rfl | h
  all_goals try decide
  obtain ⟨q, rfl⟩ : ∃ q, p = q + 7 := ⟨p - 7, by omega⟩
  rw [dW] <;> omega
section
variable {A : Nat → Int} {M0 : pm_M} {P H n : Nat}
theorem am_b' {L : Nat} (hL : L < 5) (hA : WF A) (hX : TXS M0 (A 2)) {p : Nat} {h : Int} (hp : (p : Int) < A 0) (hh : hOK A L h) : 0 ≤ am M0 L A p h ∧ am M0 L A p h ≤ 999 := by
  have := am_b (L := L) (p := p) (h := h) (M0 := M0) (r := a_row A) hL hA hX (rW_rJ hA.2.2.2.2.2.2.2.2.2.1) hp hh
  rw [rU_self] at this
  exact this.1
theorem Wt_b (hA : WF A) (hX : TXS M0 (A 2)) {p k : Nat} (hp : (p : Int) < A 0) (hk : 1 ≤ k) : -999 ≤ Wt M0 A p k ∧ Wt M0 A p k ≤ 999 := by
  unfold Wt
  split
  · have h1 := am_b' (L := 1) (h := (k : Int) - 1) (by omega) hA hX hp (Or.inr ⟨by omega, by omega, by omega⟩)
    have h0 := am_b' (L := 0) (h := (k : Int) - 1) (by omega) hA hX hp (Or.inr ⟨by omega, by omega, by omega⟩)
    omega
  · have := am_b' (L := 3) (h := -1) (by omega) hA hX hp (Or.inl ⟨rfl, rfl⟩)
    omega
theorem Cs_b (hA : WF A) (hX : TXS M0 (A 2)) (hP : A 0 = P) : CB n P (Cs M0 A) := by
  intro r k h1 h2 h3 h4
  have w := Wt_b hA hX (p := r - 1) (k := k) (by omega) h3
  have d := dW_b (r - 1)
  have w1 := hA.2.1
  unfold Cs cK
  split
  · have := mul_bd (a := (k : Int)) (A := 12) (by omega) (b := dW (r - 1)) (B := 62748517) (by omega)
    omega
  · omega
theorem x_am' {L : Nat} (hL : L < 5) (hA : WF A) (hX : TXS M0 (A 2)) {M : pm_M} (hC : CX 24 36 1 A M) (hK : KA M0 M) {p : Nat} {h : Int} (hp : (p : Int) < A 0) (hh : hOK A L h) : ok (f_Judge_amount L p h M) (fun y => y.1 = am M0 L A p h ∧ fr [65] M y.2) := by
  have := x_am (L := L) (p := p) (h := h) (M0 := M0) (r := a_row A) hL hA hX (rW_rJ hA.2.2.2.2.2.2.2.2.2.1) (by rw [rU_self]; exact hC) hK hp hh
  rw [rU_self] at this
  exact this
theorem q_am' {L : Nat} (hL : L < 4) (hA : WF A) (hX : TXS M0 (A 2)) {M : pm_M} (hM : M 88 = A) (hK : KA M0 M) {p : Nat} {h : Int} (hp : (p : Int) < A 0) (hh : hOK A L h) : ok (f_Q_tellsOf L p h M) (fun y => y.1 = am M0 L A p h ∧ fr [108, 109] M y.2) := by
  have := q_am (L := L) (p := p) (h := h) (M0 := M0) (r := a_row A) hL hA hX (rW_rJ hA.2.2.2.2.2.2.2.2.2.1) (by rw [rU_self]; exact hM) hK hp hh
  rw [rU_self] at this
  exact this
/-- the weights of a plinth's row, columns below q -/
def wRow (M0 : pm_M) (A : Nat → Int) (p q : Nat) (M : pm_M) : Prop := ∀ k, 1 ≤ k → k < q → M 68 (21 * (p + 1) + k) = Wt M0 A p k ∧ M 69 (21 * (p + 1) + k) = Cs M0 A (p + 1) k
theorem x_w32 (hA : WF A) (hX : TXS M0 (A 2)) (hH : A 1 = H) (hP : A 0 = P) (hn : n = H + P) {p : Nat} (hp : p < P) : ∀ (t nn q : Nat) (M : pm_M), q + t = n + 1 → 1 ≤ q → t < nn → M 67 11 = n → CX 24 36 1 A M → KA M0 M → wRow M0 A p q M → ok (f_Placing_weigh_L32 nn (dW p) p (am M0 3 A p (-1)) q M) (fun z => z.1 = dW p ∧ z.2.1 = p ∧ wRow M0 A p (n + 1) z.2.2 ∧ (∀ i, i < 21 * (p + 1) ∨ 21 * (p + 2) ≤ i → z.2.2 68 i = M 68 i ∧ z.2.2 69 i = M 69 i) ∧ fr [65, 68, 69] M z.2.2) := by
  have w0 := hA.1
  have w1 := hA.2.1
  have dWb := dW_b p
  intro t
  induction t with
  | zero =>
    intro nn q M hq hq1 hnn h67 hC hK hw
    cases nn with
    | zero => omega
    | succ nn =>
      unfold f_Placing_weigh_L32
      refine ok_pos (by omega) (ok_some ⟨rfl, rfl, ?_, fun _ _ => ⟨rfl, rfl⟩, fr_rf _ _⟩)
      rw [show q = n + 1 by omega] at hw
      exact hw
  | succ t ih =>
    intro nn q M hq hq1 hnn h67 hC hK hw
    cases nn with
    | zero => omega
    | succ nn =>
      have wtb := Wt_b hA hX (p := p) (k := q) (by omega) hq1
      have go : ∀ (M1 : pm_M), fr [65] M M1 → ok (f_Placing_weigh_L32 nn (dW p) p (am M0 3 A p (-1)) ((q : Int) + 1) (pm_ms (pm_ms M1 68 (21 * (p + 1) + q) (Wt M0 A p q)) 69 (21 * (p + 1) + q) (Cs M0 A (p + 1) q))) (fun z => z.1 = dW p ∧ z.2.1 = p ∧ wRow M0 A p (n + 1) z.2.2 ∧ (∀ i, i < 21 * (p + 1) ∨ 21 * (p + 2) ≤ i → z.2.2 68 i = M 68 i ∧ z.2.2 69 i = M 69 i) ∧ fr [65, 68, 69] M z.2.2) := by
        intro M1 hf
        generalize hM2 : pm_ms (pm_ms M1 68 (21 * (p + 1) + q) (Wt M0 A p q)) 69 (21 * (p + 1) + q) (Cs M0 A (p + 1) q) = M2
        have f2 : fr [65, 68, 69] M M2 := by rw [← hM2]; exact fr_tr (fr_tr hf (S2 := [68]) (fr_ms (by decide)) (S := [65, 68, 69]) (by decide) (by decide)) (S2 := [69]) (fr_ms (by decide)) (by decide) (by decide)
        have e68 : ∀ i, M2 68 i = if i = 21 * (p + 1) + q then Wt M0 A p q else M 68 i := fun i => by rw [← hM2, pm_ms_ne (by omega), msc, aSn, hf 68 (by decide)]
        have e69 : ∀ i, M2 69 i = if i = 21 * (p + 1) + q then Cs M0 A (p + 1) q else M 69 i := fun i => by rw [← hM2, msc, aSn, pm_ms_ne (by omega), hf 69 (by decide)]
        refine ok_mono (ih nn (q + 1) M2 (by omega) (by omega) (by omega) (by rw [f2 67 (by decide)]; exact h67) (CX_fr f2 (by decide) hC) (KA_fr f2 (by decide) hK) (fun k x y => ?_)) ?_
        · rw [e68, e69]
          by_cases e : k = q
          · rw [if_pos (by omega), if_pos (by omega), e]; exact ⟨rfl, rfl⟩
          · rw [if_neg (by omega), if_neg (by omega)]; exact hw k x (by omega)
        · rintro z ⟨a, b, c, d, e⟩
          refine ⟨a, b, c, fun i hi => ?_, fr_2 f2 e⟩
          rw [(d i hi).1, (d i hi).2, e68, e69, if_neg (by omega), if_neg (by omega)]; exact ⟨rfl, rfl⟩
      unfold f_Placing_weigh_L32
      rw [h67, i_sb_eq (a := (q : Int)) (by omega), i_ad_eq (a := (q : Int)) (by omega), i_ad_eq (a := (p : Int)) (by omega)]
      refine ok_neg (by omega) (ok_pl (x_isHd hC.1.1.2.1 _) (fun hh => ok_neg (by omega) ?_) (fun hh => ok_pos rfl ?_))
      · have hok : ∀ L : Nat, L < 3 → hOK A L ((q : Int) - 1) := fun L hL => Or.inr ⟨by omega, hh.1, hh.2⟩
        have eW : Wt M0 A p q = am M0 1 A p ((q : Int) - 1) - am M0 0 A p ((q : Int) - 1) := by unfold Wt; rw [if_pos (by omega)]
        have b1 := am_b' (M0 := M0) (L := 1) (h := (q : Int) - 1) (by omega) hA hX (p := p) (by omega) (hok 1 (by omega))
        have b0 := am_b' (M0 := M0) (L := 0) (h := (q : Int) - 1) (by omega) hA hX (p := p) (by omega) (hok 0 (by omega))
        refine ok_bind (x_am' (L := 1) (p := p) (by omega) hA hX hC hK (by omega) (hok 1 (by omega))) (fun y hy => ?_)
        refine ok_bind (x_am' (L := 0) (p := p) (M := y.2) (by omega) hA hX (CX_fr hy.2 (by decide) hC) (KA_fr hy.2 (by decide) hK) (by omega) (hok 0 (by omega))) (fun z hz => ?_)
        unfold f_Placing_place
        rw [hy.1, hz.1, i_sb_eq (by omega), ← eW, i_ml_eq (by omega), i_ad_eq (by omega), ob, show (((p : Int) + 1) * 21 + (q : Int)).toNat = 21 * (p + 1) + q by omega]
        have hmd := mul_bd (a := (q : Int)) (A := 12) (by omega) (b := dW p) (B := 62748517) (by omega)
        have eC : l_sb (l_ml (q : Int) (dW p)) (l_ml (Wt M0 A p q) 815730721) = Cs M0 A (p + 1) q := by
          unfold Cs
          rw [l_ml_eq (by omega), l_ml_eq (by omega), l_sb_eq (by omega), if_pos (by omega), Nat.add_sub_cancel]
        rw [eC]
        exact ok_pos (by omega) (ok_bd (ok_neg (by omega) (ok_pos (by omega) (ok_bd (go z.2 (fr_2 hy.2 hz.2))))))
      · have eW : Wt M0 A p q = am M0 3 A p (-1) := by unfold Wt; rw [if_neg (by omega)]
        unfold f_Placing_place
        rw [i_ml_eq (by omega), i_ad_eq (by omega), ob, show (((p : Int) + 1) * 21 + (q : Int)).toNat = 21 * (p + 1) + q by omega]
        have eC : l_sb 0 (l_ml (am M0 3 A p (-1)) 815730721) = Cs M0 A (p + 1) q := by
          unfold Cs
          rw [if_neg (by omega), Nat.add_sub_cancel, ← eW, l_ml_eq (by omega), l_sb_eq (by omega)]
        rw [eC]
        have := go M (fr_rf _ _)
        rw [eW] at this
        exact ok_pos (by omega) (ok_bd (ok_pos rfl (ok_pos (by omega) (ok_bd this))))
theorem dW_s {p : Nat} (hp : p < 8) : p < 7 → l_dv (dW p) 13 = dW (p + 1) := by
  intro h
  rcases (show p = 0 ∨ p = 1 ∨ p = 2 ∨ p = 3 ∨ p = 4 ∨ p = 5 ∨ p = 6 by omega) with rfl | rfl | rfl | rfl | rfl | rfl | rfl <;> decide +kernel
theorem x_w6 (hA : WF A) (hX : TXS M0 (A 2)) (hH : A 1 = H) (hP : A 0 = P) (hn : n = H + P) : ∀ (t nn p : Nat) (y : Int) (M : pm_M), p + t = P → t < nn → (p < P → y = dW p) → M 67 11 = n → CX 24 36 1 A M → KA M0 M → (∀ p', p' < p → wRow M0 A p' (n + 1) M) → ok (f_Placing_weigh_L6 nn y p M) (fun M' => (∀ p', p' < P → wRow M0 A p' (n + 1) M') ∧ fr [65, 68, 69] M M') := by
  have w0 := hA.1
  have w1 := hA.2.1
  intro t
  induction t with
  | zero =>
    intro nn p y M hp hnn hy h67 hC hK hw
    cases nn with
    | zero => omega
    | succ nn =>
      unfold f_Placing_weigh_L6 f_Told_plinths
      rw [hC.1.1.1, hP]
      exact ok_be rfl (ok_pos (by omega) (ok_some ⟨fun p' h => hw p' (by omega), fr_rf _ _⟩))
  | succ t ih =>
    intro nn p y M hp hnn hy h67 hC hK hw
    cases nn with
    | zero => omega
    | succ nn =>
      unfold f_Placing_weigh_L6 f_Told_plinths
      rw [hC.1.1.1, hP, hy (by omega)]
      refine ok_be rfl (ok_neg (by omega) (ok_bind (x_am' (L := 3) (p := p) (by omega) hA hX hC hK (by omega) (Or.inl ⟨rfl, rfl⟩)) (fun yy hy' => ?_)))
      rw [hy'.1]
      have hC1 := CX_fr hy'.2 (by decide) hC
      have := x_w32 (n := n) hA hX hH hP hn (p := p) (by omega) n pm_F 1 yy.2 (by omega) (by omega) (by unfold pm_F; omega) (by rw [hy'.2 67 (by decide)]; exact h67) hC1 (KA_fr hy'.2 (by decide) hK) (fun k x y => by omega)
      rw [show ((1 : Nat) : Int) = 1 from rfl] at this
      refine ok_bind this ?_
      rintro ⟨a, b, M2⟩ ⟨z1, z2, z3, z4, z5⟩
      dsimp only at z1 z2 z3 z4 z5 ⊢
      rw [z1, z2, i_ad_eq (by omega)]
      have f2 : fr [65, 68, 69] M M2 := fr_tr hy'.2 z5 (by decide) (by decide)
      refine ok_mono (ih nn (p + 1) _ M2 (by omega) (by omega) (fun h => dW_s (by omega) (by omega)) (by rw [f2 67 (by decide)]; exact h67) (CX_fr f2 (by decide) hC) (KA_fr f2 (by decide) hK) (fun p' hp' => ?_)) (fun M' h' => ⟨h'.1, fr_2 f2 h'.2⟩)
      by_cases e : p' = p
      · rw [e]; exact z3
      · intro k x y
        rw [(z4 _ (by omega)).1, (z4 _ (by omega)).2, hy'.2 68 (by decide), hy'.2 69 (by decide)]
        exact hw p' (by omega) k x y
end
