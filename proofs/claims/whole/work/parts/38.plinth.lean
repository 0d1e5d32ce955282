/-! PLINTHS: miles, and how many are close -/
theorem i_ab_eq {a : Int} (h : -100000 ≤ a ∧ a ≤ 100000) : i_ab a = if 0 ≤ a then a else -a := by
  unfold i_ab
  by_cases h0 : 0 ≤ a
  · rw [if_pos h0, if_pos h0]
  · rw [if_neg h0, if_neg h0, i_sb_eq (by omega)]; omega
def xyW (A : Nat → Int) : Prop := ∀ p, p < 8 → (0 ≤ A (10 + 4 * p) ∧ A (10 + 4 * p) ≤ 99) ∧ (0 ≤ A (11 + 4 * p) ∧ A (11 + 4 * p) ≤ 99)
theorem WF.xy {A : Nat → Int} (h : WF A) : xyW A := fun p hp => ⟨(h.2.2.2.2.2.2.1 p hp).1, (h.2.2.2.2.2.2.1 p hp).2.1⟩
theorem a_mi_b {A : Nat → Int} (h : xyW A) {p q : Nat} (hp : p < 8) (hq : q < 8) : (0 ≤ a_mi A p q ∧ a_mi A p q ≤ 198) ∧ a_mi A p q = a_mi A q p := by
  have h1 := h p hp
  have h2 := h q hq
  unfold a_mi
  rw [i_ab_eq (by omega), i_ab_eq (by omega), i_ab_eq (by omega), i_ab_eq (by omega)]
  refine ⟨?_, ?_⟩
  · split <;> split <;> omega
  · split <;> split <;> split <;> split <;> omega
theorem x_mi {A : Nat → Int} {M : pm_M} (h : xyW A) (hM : ∀ p, p < 8 → M 25 p = A (10 + 4 * p) ∧ M 26 p = A (11 + 4 * p)) {p q : Nat} (hp : p < 8) (hq : q < 8) : f_Told_milesApart p q M = some (a_mi A p q) := by
  have h1 := h p hp
  have h2 := h q hq
  unfold f_Told_milesApart a_mi
  rw [if_pos (by omega), if_pos (by omega), if_pos (by omega), if_pos (by omega), tn_nat, tn_nat, (hM p hp).1, (hM p hp).2, (hM q hq).1, (hM q hq).2, i_sb_eq (by omega), i_sb_eq (by omega)]
  rw [i_ab_eq (by omega), i_ab_eq (by omega), i_ad_eq]
  split <;> split <;> omega
theorem q_mi {A : Nat → Int} {M : pm_M} (h : xyW A) (hM : M 88 = A) {p q : Nat} (hp : p < 8) (hq : q < 8) : f_Q_milesOf p q M = some (a_mi A p q) := by
  have h1 := h p hp
  have h2 := h q hq
  unfold f_Q_milesOf a_mi
  rw [i_ml_eq (a := 4) (b := (p : Int)) (by omega), i_ml_eq (a := 4) (b := (q : Int)) (by omega), i_ad_eq (a := 10) (b := 4 * (p : Int)) (by omega), i_ad_eq (a := 10) (b := 4 * (q : Int)) (by omega), i_ad_eq (a := 10 + 4 * (p : Int)) (b := 1) (by omega), i_ad_eq (a := 10 + 4 * (q : Int)) (b := 1) (by omega)]
  rw [show ((10 : Int) + 4 * (p : Int)).toNat = 10 + 4 * p by omega, show ((10 : Int) + 4 * (q : Int)).toNat = 10 + 4 * q by omega, show ((10 : Int) + 4 * (p : Int) + 1).toNat = 11 + 4 * p by omega, show ((10 : Int) + 4 * (q : Int) + 1).toNat = 11 + 4 * q by omega, hM]
  rw [if_pos (by omega), if_pos (by omega), i_sb_eq (by omega), i_sb_eq (by omega), i_ab_eq (by omega), i_ab_eq (by omega)]
  rw [pm_bd, if_pos (by omega), if_pos (by omega), pm_bd]
  by_cases c1 : 0 ≤ A (10 + 4 * p) - A (10 + 4 * q)
  · rw [if_pos c1, if_pos c1]
    by_cases c2 : 0 ≤ A (11 + 4 * p) - A (11 + 4 * q)
    · rw [if_pos c2, if_pos c2, i_ad_eq (by omega)]
    · rw [if_neg c2, if_neg c2, i_ng_eq (by omega), i_ad_eq (by omega)]
  · rw [if_neg c1, if_neg c1, i_ng_eq (by omega)]
    by_cases c2 : 0 ≤ A (11 + 4 * p) - A (11 + 4 * q)
    · rw [if_pos c2, if_pos c2, i_ad_eq (by omega)]
    · rw [if_neg c2, if_neg c2, i_ng_eq (by omega), i_ad_eq (by omega)]
theorem a_cl_b (A : Nat → Int) (p : Nat) : ∀ n, 0 ≤ a_cl A p n ∧ a_cl A p n ≤ n
  | 0 => ⟨by rw [a_cl]; omega, by rw [a_cl]; omega⟩
  | n + 1 => by
    have := a_cl_b A p n
    rw [a_cl]
    split <;> omega
theorem a_cl_congr2 {A A' : Nat → Int} {p P : Nat} (hp : p < P) (h : ∀ k, 10 ≤ k → k < 10 + 4 * P → A' k = A k) : ∀ m, m ≤ P → a_cl A' p m = a_cl A p m := by
  intro m
  induction m with
  | zero => intro _; rfl
  | succ m ih =>
    intro hm
    unfold a_cl a_mi
    rw [ih (by omega), h (10 + 4 * p) (by omega) (by omega), h (11 + 4 * p) (by omega) (by omega), h (10 + 4 * m) (by omega) (by omega), h (11 + 4 * m) (by omega) (by omega)]
theorem x_clL {A : Nat → Int} (hxy : xyW A) {P : Nat} (hP : P < 8) : ∀ (k n q : Nat) (M : pm_M), q + k = P → k < n → (∀ p, p < 8 → M 25 p = A (10 + 4 * p) ∧ M 26 p = A (11 + 4 * p)) → (∀ s, s ≤ P → -1000 ≤ M 29 s ∧ M 29 s + k ≤ 1000) →
    ok (f_Told_countClose_L9 n P q M) (fun M' => fr [29] M M' ∧ M' 29 P = M 29 P + (a_cl A P P - a_cl A P q) ∧ ∀ s, s < P → M' 29 s = M 29 s + if q ≤ s ∧ a_mi A P s ≤ 10 then 1 else 0) := by
  intro k
  induction k with
  | zero =>
    intro n q M hq hn hxyM hb
    cases n with
    | zero => omega
    | succ n =>
      unfold f_Told_countClose_L9
      refine ok_pos (by omega) (ok_some ⟨fr_rf _ _, ?_, fun s hs => ?_⟩)
      · rw [show q = P by omega]; omega
      · rw [if_neg (by omega)]; omega
  | succ k ih =>
    intro n q M hq hn hxyM hb
    cases n with
    | zero => omega
    | succ n =>
      unfold f_Told_countClose_L9
      refine ok_neg (by omega) (ok_be (x_mi hxy hxyM hP (by omega)) ?_)
      rw [i_ad_eq (a := (q : Int)) (b := 1) (by omega)]
      have hq1 : ((q : Int) + 1) = ((q + 1 : Nat) : Int) := by omega
      have hcl : a_cl A P (q + 1) = a_cl A P q + if q ≠ P ∧ a_mi A P q ≤ 10 then 1 else 0 := rfl
      refine ok_ite (fun h1 => ?_) (fun h1 => ?_)
      · rw [hq1]
        rw [if_neg (by omega)] at hcl
        refine ok_mono (ih n (q + 1) M (by omega) (by omega) hxyM (fun s hs => by have := hb s hs; omega)) (fun M' h => ⟨h.1, by rw [h.2.1]; omega, fun s hs => ?_⟩)
        rw [h.2.2 s hs]
        by_cases hs2 : s = q
        · rw [hs2, if_neg (by omega), if_neg (by omega)]
        · by_cases hs3 : q ≤ s ∧ a_mi A P s ≤ 10
          · rw [if_pos hs3, if_pos (by omega)]
          · rw [if_neg hs3, if_neg (by omega)]
      · rw [if_pos ⟨by omega, by omega⟩] at hcl
        have b1 := hb P (by omega)
        have b2 := hb q (by omega)
        refine ok_pos (by omega) (ok_pos (by omega) (ok_bd (ok_pos (by omega) (ok_pos (by omega) (ok_bd ?_)))))
        rw [tn_nat, tn_nat, i_ad_eq (by omega)]
        rw [show pm_ms M 29 P (M 29 P + 1) 29 q = M 29 q by rw [msc, aSn, if_neg (by omega)], i_ad_eq (by omega), hq1]
        generalize hM2 : pm_ms (pm_ms M 29 P (M 29 P + 1)) 29 q (M 29 q + 1) = M2
        have g : ∀ s, M2 29 s = if s = q then M 29 q + 1 else if s = P then M 29 P + 1 else M 29 s := fun s => by rw [← hM2, msc, msc, aSn, aSn]
        have gf : fr [29] M M2 := by rw [← hM2]; exact fr_2 (fr_ms (by decide)) (fr_ms (by decide))
        refine ok_mono (ih n (q + 1) M2 (by omega) (by omega) (fun p hp => ?_) (fun s hs => ?_)) (fun M' h => ⟨fr_2 gf h.1, ?_, fun s hs => ?_⟩)
        · rw [gf 25 (by decide), gf 26 (by decide)]; exact hxyM p hp
        · have := hb s hs
          rw [g s]
          split
          · omega
          · split <;> omega
        · rw [h.2.1, g P, if_neg (by omega), if_pos rfl]; omega
        · rw [h.2.2 s hs, g s]
          by_cases hs2 : s = q
          · rw [if_pos hs2, if_neg (by omega), hs2, if_pos (by omega)]; omega
          · rw [if_neg hs2, if_neg (by omega)]
            by_cases hs3 : q ≤ s ∧ a_mi A P s ≤ 10
            · rw [if_pos hs3, if_pos (by omega)]
            · rw [if_neg hs3, if_neg (by omega)]
def a_pn (A : Nat → Int) (a b c d : Int) : Nat → Int := aS (aS (aS (aS (aS A (10 + 4 * (A 0).toNat) a) (11 + 4 * (A 0).toNat) b) (12 + 4 * (A 0).toNat) c) (13 + 4 * (A 0).toNat) d) 0 (A 0 + 1)
section
variable {A : Nat → Int} {M : pm_M} {a b c d : Int}
theorem a_pn_o {k : Nat} (h : k ≠ 0) (h2 : k < 10 + 4 * (A 0).toNat ∨ 13 + 4 * (A 0).toNat < k) : a_pn A a b c d k = A k := by
  unfold a_pn
  rw [aSn, if_neg h, aSn, if_neg (by omega), aSn, if_neg (by omega), aSn, if_neg (by omega), aSn, if_neg (by omega)]
theorem a_pn_n : a_pn A a b c d 0 = A 0 + 1 ∧ a_pn A a b c d (10 + 4 * (A 0).toNat) = a ∧ a_pn A a b c d (11 + 4 * (A 0).toNat) = b ∧ a_pn A a b c d (12 + 4 * (A 0).toNat) = c ∧ a_pn A a b c d (13 + 4 * (A 0).toNat) = d := by
  unfold a_pn
  refine ⟨?_, ?_, ?_, ?_, ?_⟩
  · rw [aSn, if_pos rfl]
  · rw [aSn, if_neg (by omega), aSn, if_neg (by omega), aSn, if_neg (by omega), aSn, if_neg (by omega), aSn, if_pos rfl]
  · rw [aSn, if_neg (by omega), aSn, if_neg (by omega), aSn, if_neg (by omega), aSn, if_pos rfl]
  · rw [aSn, if_neg (by omega), aSn, if_neg (by omega), aSn, if_pos rfl]
  · rw [aSn, if_neg (by omega), aSn, if_pos rfl]
def c_pn (A : Nat → Int) (a b c d : Int) : Prop := A 0 ≠ 8 ∧ (0 ≤ a ∧ a ≤ 99) ∧ (0 ≤ b ∧ b ≤ 99) ∧ (0 ≤ c ∧ c ≤ 9) ∧ (0 ≤ d ∧ d ≤ 9)
theorem w_plinth (hA : WF A) (hc : c_pn A a b c d) : WF (a_pn A a b c d) ∧ a_pn A a b c d 2 = A 2 := by
  obtain ⟨w0, w1, w2, w3, w4, w5, w6, w7, w8, w9, w10⟩ := id hA
  have e := fun j h1 h2 => a_pn_o (A := A) (a := a) (b := b) (c := c) (d := d) (k := j) h1 h2
  have en := a_pn_n (A := A) (a := a) (b := b) (c := c) (d := d)
  obtain ⟨h1, h2, h3, h4, h5⟩ := hc
  refine ⟨WF_T hA (fun k hk => e k (by omega) (by omega)) (by rw [en.1]; omega) (by rw [e 1 (by omega) (by omega)]; omega) (by rw [e 2 (by omega) (by omega)]; exact w2) (by rw [e 2 (by omega) (by omega), e 3 (by omega) (by omega)]; exact w3) (by rw [e 5 (by omega) (by omega)]; exact w5) (fun p hp => ?_) (fun p hp => ?_) (fun p hp => ?_), e 2 (by omega) (by omega)⟩
  · by_cases hpk : p = (A 0).toNat
    · rw [hpk, en.2.1, en.2.2.1, en.2.2.2.1, en.2.2.2.2]; exact ⟨h2, h3, h4, h5⟩
    · rw [e (10 + 4 * p) (by omega) (by omega), e (11 + 4 * p) (by omega) (by omega), e (12 + 4 * p) (by omega) (by omega), e (13 + 4 * p) (by omega) (by omega)]; exact w6 p hp
  · rw [e (42 + 2 * p) (by omega) (by omega), e (43 + 2 * p) (by omega) (by omega)]; exact w7 p hp
  · rw [e 5 (by omega) (by omega)] at hp
    have := w8 p hp
    rw [en.1, e (256 + 3 * p) (by omega) (by omega), e (257 + 3 * p) (by omega) (by omega), e (258 + 3 * p) (by omega) (by omega)]; omega
theorem x_plinth (hA : WF A) (hC : CX 24 36 1 A M) (a b c d : Int) : ok (f_X_plinth a b c d M) (XP (c_pn A a b c d) (-1) (A 0) (a_pn A a b c d) [24, 25, 26, 27, 28, 29] M) := by
  have w0 := hA.1
  obtain ⟨⟨t1, t2, t3, t4, t5⟩, t6, t7, t8, t9⟩ := hC.1
  unfold f_X_plinth
  have inner : ok (f_Told_addPlinth a b c d M) (XP (c_pn A a b c d) (-1) (A 0) (a_pn A a b c d) [24, 25, 26, 27, 28, 29] M) := by
    unfold f_Told_addPlinth
    rw [t1]
    refine ok_ite (fun h1 => ok_some (XP_no (fun z => by have := z.1; omega))) (fun h1 => ?_)
    refine ok_ite (fun h2 => ok_some (XP_no (fun z => by have := z.2.1; omega))) (fun h2 => ?_)
    refine ok_ite (fun h3 => ok_some (XP_no (fun z => by have := z.2.1; omega))) (fun h3 => ?_)
    refine ok_ite (fun h4 => ok_some (XP_no (fun z => by have := z.2.2.1; omega))) (fun h4 => ?_)
    refine ok_ite (fun h5 => ok_some (XP_no (fun z => by have := z.2.2.1; omega))) (fun h5 => ?_)
    refine ok_ite (fun h6 => ok_some (XP_no (fun z => by have := z.2.2.2.1; omega))) (fun h6 => ?_)
    refine ok_ite (fun h7 => ok_some (XP_no (fun z => by have := z.2.2.2.1; omega))) (fun h7 => ?_)
    refine ok_ite (fun h8 => ok_some (XP_no (fun z => by have := z.2.2.2.2; omega))) (fun h8 => ?_)
    refine ok_ite (fun h9 => ?_) (fun h9 => ok_some (XP_no (fun z => by have := z.2.2.2.2; omega)))
    have hc : c_pn A a b c d := ⟨by omega, by omega, by omega, by omega, by omega⟩
    obtain ⟨P, eP⟩ : ∃ k : Nat, A 0 = k := ⟨(A 0).toNat, by omega⟩
    have hk : (A 0).toNat = P := by omega
    refine ok_pos (by omega) (ok_bd ?_)
    rw [show pm_ms M 25 (A 0).toNat a 24 = M 24 from rfl, t1]
    refine ok_pos (by omega) (ok_bd ?_)
    rw [show pm_ms (pm_ms M 25 (A 0).toNat a) 26 (A 0).toNat b 24 = M 24 from rfl, t1]
    refine ok_pos (by omega) (ok_bd ?_)
    rw [show pm_ms (pm_ms (pm_ms M 25 (A 0).toNat a) 26 (A 0).toNat b) 27 (A 0).toNat c 24 = M 24 from rfl, t1]
    refine ok_pos (by omega) (ok_bd ?_)
    rw [show pm_ms (pm_ms (pm_ms (pm_ms M 25 (A 0).toNat a) 26 (A 0).toNat b) 27 (A 0).toNat c) 28 (A 0).toNat d 24 = M 24 from rfl, t1]
    generalize hM4 : pm_ms (pm_ms (pm_ms (pm_ms M 25 (A 0).toNat a) 26 (A 0).toNat b) 27 (A 0).toNat c) 28 (A 0).toNat d = M4
    have g25 : M4 25 = aS (M 25) P a := by rw [← hM4, hk]; rfl
    have g26 : M4 26 = aS (M 26) P b := by rw [← hM4, hk]; rfl
    have g27 : M4 27 = aS (M 27) P c := by rw [← hM4, hk]; rfl
    have g28 : M4 28 = aS (M 28) P d := by rw [← hM4, hk]; rfl
    have gf : fr [25, 26, 27, 28] M M4 := by rw [← hM4]; exact fr_2 (fr_2 (fr_2 (fr_ms (by decide)) (fr_ms (by decide))) (fr_ms (by decide))) (fr_ms (by decide))
    have e := fun j h1 h2 => a_pn_o (A := A) (a := a) (b := b) (c := c) (d := d) (k := j) h1 h2
    have en := a_pn_n (A := A) (a := a) (b := b) (c := c) (d := d)
    have hW := (w_plinth hA hc).1
    rw [hk] at e en
    have hxyM : ∀ p, p < 8 → M4 25 p = a_pn A a b c d (10 + 4 * p) ∧ M4 26 p = a_pn A a b c d (11 + 4 * p) ∧ M4 27 p = a_pn A a b c d (12 + 4 * p) ∧ M4 28 p = a_pn A a b c d (13 + 4 * p) := by
      intro p hp
      rw [g25, g26, g27, g28, aSn, aSn, aSn, aSn]
      by_cases hpk : p = P
      · rw [if_pos hpk, if_pos hpk, if_pos hpk, if_pos hpk, hpk]; exact ⟨en.2.1.symm, en.2.2.1.symm, en.2.2.2.1.symm, en.2.2.2.2.symm⟩
      · rw [if_neg hpk, if_neg hpk, if_neg hpk, if_neg hpk, e (10 + 4 * p) (by omega) (by omega), e (11 + 4 * p) (by omega) (by omega), e (12 + 4 * p) (by omega) (by omega), e (13 + 4 * p) (by omega) (by omega)]; exact t6 p hp
    have c29 : ∀ p, p < P → M4 29 p = a_cl A p P := fun p hp => by rw [gf 29 (by decide), t7 p (by omega), hk]
    unfold f_Told_countClose
    rw [eP]
    refine ok_bind (Q1 := fun M5 => fr [29] M4 M5 ∧ M5 29 P = a_cl (a_pn A a b c d) P P ∧ ∀ s, s < P → M5 29 s = a_cl A s P + if a_mi (a_pn A a b c d) P s ≤ 10 then 1 else 0) ?_ ?_
    · refine ok_pos (by omega) (ok_bd ?_)
      rw [tn_nat]
      have hb : ∀ s, s ≤ P → pm_ms M4 29 P 0 29 s = if s = P then 0 else a_cl A s P := by
        intro s hs
        rw [msc, aSn]
        by_cases hs2 : s = P
        · rw [if_pos hs2, if_pos hs2]
        · rw [if_neg hs2, if_neg hs2, c29 s (by omega)]
      refine ok_bind (x_clL hW.xy (P := P) (by omega) P pm_F 0 (pm_ms M4 29 P 0) (by omega) (by unfold pm_F; omega) (fun p hp => ⟨(hxyM p hp).1, (hxyM p hp).2.1⟩) (fun s hs => ?_)) (fun M5 h => ok_some ⟨fr_2 (fr_ms (by decide)) h.1, ?_, fun s hs => ?_⟩)
      · have := a_cl_b A s P
        rw [hb s hs]; split <;> omega
      · rw [h.2.1, hb P (by omega), if_pos rfl]; show _ + (_ - 0) = _; omega
      · rw [h.2.2 s hs, hb s (by omega), if_neg (by omega)]
        by_cases hm : a_mi (a_pn A a b c d) P s ≤ 10
        · rw [if_pos ⟨by omega, hm⟩, if_pos hm]
        · rw [if_neg (fun z => hm z.2), if_neg hm]
    intro M5 h
    refine ok_bd (ok_some ?_)
    have g24 : M5 24 = M 24 := by rw [h.1 24 (by decide), gf 24 (by decide)]
    rw [g24, t1, i_ad_eq (by omega)]
    have hf5 : fr [25, 26, 27, 28, 29] M M5 := fr_tr gf h.1 (by decide) (by decide)
    have hf6 : fr [24, 25, 26, 27, 28, 29] M (pm_ms M5 24 10 (A 0 + 1)) := fr_tr hf5 (S2 := [24]) (fr_ms (by decide)) (by decide) (by decide)
    have k24 : pm_ms M5 24 10 (A 0 + 1) 24 = aS (M 24) 10 (A 0 + 1) := by rw [msc, g24]
    have kk : ∀ j, j ≠ 24 → pm_ms M5 24 10 (A 0 + 1) j = M5 j := fun j hj => by rw [msn, if_neg hj]
    generalize pm_ms M5 24 10 (A 0 + 1) = M6 at hf6 k24 kk ⊢
    have hxy5 : ∀ p, p < 8 → M5 (24 + 1) p = a_pn A a b c d (10 + 4 * p) ∧ M5 (24 + 2) p = a_pn A a b c d (11 + 4 * p) ∧ M5 (24 + 3) p = a_pn A a b c d (12 + 4 * p) ∧ M5 (24 + 4) p = a_pn A a b c d (13 + 4 * p) := by
      intro p hp
      rw [h.1 (24 + 1) (by decide), h.1 (24 + 2) (by decide), h.1 (24 + 3) (by decide), h.1 (24 + 4) (by decide)]
      exact hxyM p hp
    refine Or.inr ⟨hc, by show i_sb (M6 24 10) 1 = _; rw [k24, aSn, if_pos rfl, i_sb_eq (by omega)]; omega, CX_told hA hC hf6 (by decide) (fun j hj => e j (by omega) (by omega)) ?_, hf6⟩
    show rT 24 (a_pn A a b c d) M6
    refine ⟨⟨?_, ?_, ?_, ?_, ?_⟩, fun p hp => ?_, fun p hp => ?_, fun p hp => ?_, fun p hp => ?_⟩
    · rw [k24, aSn, if_pos rfl, en.1]
    · rw [k24, aSn, if_neg (by omega), e 1 (by omega) (by omega)]; exact t2
    · rw [k24, aSn, if_neg (by omega), e 5 (by omega) (by omega)]; exact t3
    · rw [k24, aSn, if_neg (by omega), e 2 (by omega) (by omega)]; exact t4
    · rw [k24, aSn, if_neg (by omega), e 3 (by omega) (by omega)]; exact t5
    · rw [kk (24 + 1) (by omega), kk (24 + 2) (by omega), kk (24 + 3) (by omega), kk (24 + 4) (by omega)]; exact hxy5 p hp
    · rw [en.1] at hp ⊢
      rw [kk (24 + 5) (by omega), show (A 0 + 1).toNat = P + 1 by omega, a_cl]
      by_cases hpP : p = P
      · rw [hpP, if_neg (by omega)]
        have := h.2.1
        show M5 29 P = _
        omega
      · have h2 := h.2.2 p (by omega)
        show M5 29 p = _
        rw [h2, a_cl_congr2 (A := A) (P := P) (by omega) (fun k h1 h2 => e k (by omega) (by omega)) P (by omega), (a_mi_b hW.xy (p := P) (q := p) (by omega) (by omega)).2]
        by_cases hm : a_mi (a_pn A a b c d) p P ≤ 10
        · rw [if_pos hm, if_pos ⟨by omega, hm⟩]
        · rw [if_neg hm, if_neg (fun z => hm z.2)]
    · rw [hf6 (24 + 6) (by decide), hf6 (24 + 7) (by decide), e (42 + 2 * p) (by omega) (by omega), e (43 + 2 * p) (by omega) (by omega)]; exact t8 p hp
    · rw [hf6 (24 + 8) (by decide), hf6 (24 + 9) (by decide), hf6 (24 + 10) (by decide), e (256 + 3 * p) (by omega) (by omega), e (257 + 3 * p) (by omega) (by omega), e (258 + 3 * p) (by omega) (by omega)]; exact t9 p hp
  exact ok_bind inner (fun y hy => ok_some hy)
theorem q_plinth (hA : WF A) (hM : M 88 = A) (a b c d : Int) : ok (f_Q_plinth a b c d M) (QP (c_pn A a b c d) (-1) (A 0) (a_pn A a b c d) [88] M) := by
  have w0 := hA.1
  unfold f_Q_plinth
  refine ok_dc (f_Q_in_eq a 0 99 M) (fun h1 => ok_neg (by omega) ?_) (fun h1 => ok_pos rfl (ok_some (QP_no (fun z => h1 z.2.1))))
  refine ok_dc (f_Q_in_eq b 0 99 M) (fun h2 => ok_neg (by omega) ?_) (fun h1 => ok_pos rfl (ok_some (QP_no (fun z => h1 z.2.2.1))))
  refine ok_dc (f_Q_in_eq c 0 9 M) (fun h3 => ok_neg (by omega) ?_) (fun h1 => ok_pos rfl (ok_some (QP_no (fun z => h1 z.2.2.2.1))))
  refine ok_dc (f_Q_in_eq d 0 9 M) (fun h5 => ok_neg (by omega) ?_) (fun h1 => ok_pos rfl (ok_some (QP_no (fun z => h1 z.2.2.2.2))))
  rw [hM]
  refine ok_ite (fun h4 => ok_some (QP_no (fun z => z.1 h4))) (fun h4 => ok_bd ?_)
  rw [i_ml_eq (a := 4) (b := A 0) (by omega), i_ad_eq (a := 10) (b := 4 * A 0) (by omega), i_ad_eq (a := 10 + 4 * A 0) (b := 1) (by omega), i_ad_eq (a := 10 + 4 * A 0) (b := 2) (by omega), i_ad_eq (a := 10 + 4 * A 0) (b := 3) (by omega)]
  rw [show ((10 : Int) + 4 * A 0).toNat = 10 + 4 * (A 0).toNat by omega, show ((10 : Int) + 4 * A 0 + 1).toNat = 11 + 4 * (A 0).toNat by omega, show ((10 : Int) + 4 * A 0 + 2).toNat = 12 + 4 * (A 0).toNat by omega, show ((10 : Int) + 4 * A 0 + 3).toNat = 13 + 4 * (A 0).toNat by omega]
  refine ok_pos (by omega) (ok_bd (ok_pos (by omega) (ok_bd (ok_pos (by omega) (ok_bd (ok_pos (by omega) (ok_bd (ok_bd (ok_some (Or.inr ⟨⟨h4, h1, h2, h3, h5⟩, ?_, ?_, fr_2 (fr_2 (fr_2 (fr_2 (fr_ms (by decide)) (fr_ms (by decide))) (fr_ms (by decide))) (fr_ms (by decide))) (fr_ms (by decide))⟩))))))))))
  · dsimp only
    simp only [msc, hM, aSn]
    rw [if_pos trivial, if_neg (by omega), if_neg (by omega), if_neg (by omega), if_neg (by omega), i_ad_eq (by omega), i_sb_eq (by omega)]; omega
  · dsimp only
    simp only [msc, hM, aSn]
    rw [if_neg (by omega), if_neg (by omega), if_neg (by omega), if_neg (by omega), i_ad_eq (by omega)]
    rfl
end
