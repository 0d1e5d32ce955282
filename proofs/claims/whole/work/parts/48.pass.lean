/-! DAYS PASS: both sides -/
def KA (M0 M : pm_M) : Prop := ∀ c ∈ KL, M c = M0 c
theorem KA_fr {M0 M M' : pm_M} {S : List Nat} (h : fr S M M') (hS : ∀ c ∈ KL, c ∉ S) (H : KA M0 M) : KA M0 M' := fun c hc => (h c (hS c hc)).trans (H c hc)
theorem aS_same (A : Nat → Int) (k : Nat) : aS A k (A k) = A := by
  funext i
  rw [aSn]
  by_cases e : i = k
  · rw [if_pos e, e]
  · rw [if_neg e]
section
variable {A A' A0 r : Nat → Int} {M M0 : pm_M} {h : Int} {p : Nat}
theorem nmf_congr {p h : Int} (hh : ∀ k, k ≠ 98 → k ≤ 99 → A' k = A k) (hp : p.toNat < 8) (h1 : h.toNat < 12) (h0 : A 0 ≤ 8) : nmf A' p h = nmf A p h := by
  funext n
  unfold nmf
  rw [hh (12 + 4 * p.toNat) (by omega) (by omega), hh (13 + 4 * p.toNat) (by omega) (by omega), hh 99 (by omega) (by omega), hh 0 (by omega) (by omega), hh (42 + 2 * h.toNat) (by omega) (by omega), hh (78 + p.toNat) (by omega) (by omega), hh (86 + h.toNat) (by omega) (by omega), a_cl_congr hp (fun k a b => hh k (by omega) (by omega)) _ (by omega)]
theorem x_rs (w : A0 0 ≤ 8) (hC : CX 24 36 1 (rU A0 r) M) {i : Nat} (hi : i < 186) (v : Int) : CX 24 36 1 (rU A0 (aS r i v)) (pm_ms M 36 i v) := by
  have := x_row (A := rU A0 r) (r := aS r i v) (M' := pm_ms M 36 i v) (by rw [rU_o (by omega)]; exact w) hC (fun j hj => by
    rw [msc, aSn, aSn]
    by_cases e : j = i
    · rw [if_pos e, if_pos e]
    · rw [if_neg e, if_neg e]; exact (hC.2.1 j hj).trans (rU_i hj)) (fr_ms (by decide))
  rw [rU_rU] at this
  exact this
theorem x_rd (hC : CX 24 36 1 (rU A0 r) M) {i : Nat} (hi : i < 186) : M 36 i = r i := (hC.2.1 i hi).trans (rU_i hi)
theorem hOK_rU {L : Int} (hh : hOK A0 L h) : hOK (rU A0 r) L h := by
  unfold hOK at hh ⊢
  rw [rU_o (by omega)]; exact hh
theorem am_b {L : Nat} (hL : L < 5) (hA : WF A0) (hX : TXS M0 (A0 2)) (hr : rJ r) (hp : (p : Int) < A0 0) (hh : hOK A0 L h) : (0 ≤ am M0 L (rU A0 r) p h ∧ am M0 L (rU A0 r) p h ≤ 999) ∧ (L = 4 → am M0 L (rU A0 r) p h = 0 ∨ am M0 L (rU A0 r) p h = 1) := by
  have := am_PV (M := M0) (p := p) hL (WJ_rU hA hr) (by rw [rU_o (by omega)]; exact hX) (by rw [rU_o (by omega)]; omega) (hOK_rU (r := r) hh)
  exact ⟨this.1, this.2.1⟩
theorem x_am {L : Nat} (hL : L < 5) (hA : WF A0) (hX : TXS M0 (A0 2)) (hr : rJ r) (hC : CX 24 36 1 (rU A0 r) M) (hK : KA M0 M) (hp : (p : Int) < A0 0) (hh : hOK A0 L h) : ok (f_Judge_amount L p h M) (fun y => y.1 = am M0 L (rU A0 r) p h ∧ fr [65] M y.2) := by
  have := am_PV (M := M0) (p := p) hL (WJ_rU hA hr) (by rw [rU_o (by omega)]; exact hX) (by rw [rU_o (by omega)]; omega) (hOK_rU (r := r) hh)
  exact (this.2.2 M hK).1 hC
theorem q_am {L : Nat} (hL : L < 4) (hA : WF A0) (hX : TXS M0 (A0 2)) (hr : rJ r) (hM : M 88 = rU A0 r) (hK : KA M0 M) (hp : (p : Int) < A0 0) (hh : hOK A0 L h) : ok (f_Q_tellsOf L p h M) (fun y => y.1 = am M0 L (rU A0 r) p h ∧ fr [108, 109] M y.2) := by
  have := am_PV (M := M0) (p := p) (L := L) (by omega) (WJ_rU hA hr) (by rw [rU_o (by omega)]; exact hX) (by rw [rU_o (by omega)]; omega) (hOK_rU (r := r) hh)
  exact ((this.2.2 M hK).2 hM).1 (by omega)
theorem q_fl (hA : WF A0) (hX : TXS M0 (A0 2)) (hr : rJ r) (hM : M 88 = rU A0 r) (hK : KA M0 M) (hp : (p : Int) < A0 0) (hp8 : p < 8) (hh : hOK A0 4 (r p)) : ok (f_Q_falls p M) (fun y => y.1 = am M0 4 (rU A0 r) p (r p) ∧ fr [108, 109] M y.2) := by
  have := am_PV (M := M0) (p := p) (L := 4) (by omega) (WJ_rU hA hr) (by rw [rU_o (by omega)]; exact hX) (by rw [rU_o (by omega)]; omega) (hOK_rU (r := r) hh)
  exact ((this.2.2 M hK).2 hM).2 rfl (by rw [tn_nat, rU_i (by omega)])
theorem q_ordS {L : Nat} (hL : L < 5) (hX : TXS M0 (A 2)) (w2 : 0 ≤ A 2 ∧ A 2 ≤ 4) (w3 : -1 ≤ A 3 ∧ A 3 < A 2) (hM : M 88 = A) (hK : KA M0 M) : ∃ g, f_Q_ordersOf L M = some g := by
  by_cases h3 : A 3 = -1
  · exact ⟨_, q_ord0 (by rw [hM]; exact h3) L⟩
  obtain ⟨t, et⟩ : ∃ t : Nat, A 3 = t := ⟨(A 3).toNat, by omega⟩
  have hT := hX t (by omega)
  rcases hT.2.2.2 L hL with ⟨h1, h2⟩ | ⟨c, f, g, l, k1, k2, k3, k4, k5, k6, k7, k8, k9, k10, k11, k12⟩
  · refine ⟨_, q_ordN (t := t) (by omega) (by rw [hM]; exact et) ?_ ?_⟩
    · rw [hK 91 (by decide)]; exact hT.1
    · rw [hK 91 (by decide), hK 92 (by decide)]; exact h2
  · refine ⟨_, q_ordY (t := t) (c := c) (g := g) (by omega) (by rw [hM]; exact et) ?_ ?_ ?_ ?_⟩
    · rw [hK 91 (by decide)]; exact hT.1
    · rw [hK 91 (by decide)]; exact k1
    · rw [hK 91 (by decide), hK 92 (by decide)]; exact k3
    · rw [hK 93 (by decide)]; exact k7
theorem q_fl0 (hA : WF A0) (hX : TXS M0 (A0 2)) (hM : M 88 = rU A0 r) (hK : KA M0 M) (hp8 : p < 8) (hr : r p = -1) : f_Q_falls p M = some (0, M) := by
  obtain ⟨g, hg⟩ := q_ordS (L := 4) (A := rU A0 r) (M := M) (M0 := M0) (by omega) (by rw [rU_o (by omega)]; exact hX) (by rw [rU_o (by omega)]; exact hA.2.2.1) (by rw [rU_o (by omega), rU_o (by omega)]; exact hA.2.2.2.1) hM hK
  unfold f_Q_falls
  rw [show (4 : Int) = ((4 : Nat) : Int) from rfl, hg, ob, i_ad_eq (by omega), show ((70 : Int) + (p : Int)).toNat = 70 + p by omega, hM, rU_i (by omega), hr]
  by_cases e : g = -1
  · rw [if_pos e]
  · rw [if_neg e, if_pos (by omega), if_pos rfl]
-- the first loop
theorem x_d1L (hA : WF A0) (hX : TXS M0 (A0 2)) : ∀ (k n p : Nat) (r : Nat → Int) (M : pm_M), p + k = (A0 0).toNat → k < n → CX 24 36 1 (rU A0 r) M → mid (A0 0) (A0 1) p r → KA M0 M → ok (f_X_dayPasses_L2 n p M) (fun M' => CX 24 36 1 (rU A0 (d1s M0 A0 k p r)) M' ∧ fr [36, 65] M M') := by
  have w0 := hA.1
  have w1 := hA.2.1
  intro k
  induction k with
  | zero =>
    intro n p r M hp hn hC hm hK
    cases n with
    | zero => omega
    | succ n =>
      unfold f_X_dayPasses_L2 f_Told_plinths
      refine ok_be (congrArg some (hC.1.1.1.trans (rU_o (by omega)))) (ok_pos (by omega) (ok_some ⟨hC, fr_rf _ _⟩))
  | succ k ih =>
    intro n p r M hp hn hC hm hK
    cases n with
    | zero => omega
    | succ n =>
      have hp8 : p < 8 := by omega
      have hJ := mid_rJ hm
      have hm' := id hm
      obtain ⟨m1, m2, m3, m4, m5, m6, m7⟩ := hm'
      have mp := m1 p hp8
      have mn := m3 p hp8
      unfold f_X_dayPasses_L2 f_Told_plinths
      refine ok_be (congrArg some (hC.1.1.1.trans (rU_o (by omega)))) (ok_neg (by omega) ?_)
      refine ok_be (x_headAt hC.2.1 (by omega)) ?_
      rw [tn_nat, a_row_rU (by omega), i_ad_eq (a := (p : Int)) (by omega), d1s]
      refine ok_ite (fun e => ?_) (fun e => ?_)
      · have ha := x_am (L := 3) (p := p) (h := -1) (by omega) hA hX hJ hC hK (by omega) (Or.inl ⟨rfl, rfl⟩)
        have hb := am_b (L := 3) (p := p) (h := -1) (by omega) hA hX hJ (by omega) (Or.inl ⟨rfl, rfl⟩)
        refine ok_bind ha (fun y hy => ?_)
        have hC2 : CX 24 36 1 (rU A0 r) y.2 := CX_fr hy.2 (by decide) hC
        unfold f_Moment_earn
        rw [hy.1, x_rd hC2 (by omega), i_ad_eq (by omega)]
        refine ok_be rfl ?_
        have ed : d1 M0 A0 r p = aS r 28 (r 28 + am M0 3 (rU A0 r) p (-1)) := by unfold d1; rw [if_pos e]
        rw [ed]
        have hf : fr [36, 65] M (pm_ms y.2 36 28 (r 28 + am M0 3 (rU A0 r) p (-1))) := fr_tr hy.2 (S2 := [36]) (fr_ms (by decide)) (by decide) (by decide)
        refine ok_mono (ih n (p + 1) _ _ (by omega) (by omega) (x_rs w0.2 hC2 (by omega) _) (mid_1 hm hp8 e hb.1) (KA_fr hf (by decide) hK)) (fun M' h' => ⟨h'.1, fr_2 hf h'.2⟩)
      · obtain ⟨q, eq⟩ : ∃ q : Nat, r p = q := ⟨(r p).toNat, by omega⟩
        have hh : ∀ L : Nat, L < 3 → hOK A0 L (r p) := fun L hL => Or.inr ⟨by omega, by omega, by omega⟩
        unfold f_Moment_standsADay f_Moment_stoodPlace
        refine ok_bind (Q1 := fun M1 => CX 24 36 1 (rU A0 (aS r (31 + 13 * (r p).toNat + r (8 + p)).toNat (r (31 + 13 * (r p).toNat + r (8 + p)).toNat + 1))) M1 ∧ fr [36] M M1) ?_ ?_
        · refine ok_be (x_headAt hC.2.1 (by omega)) (ok_be (x_nameAt hC.2.1 (by omega)) (ok_be rfl ?_))
          rw [tn_nat, a_row_rU (by omega), a_row_rU (by omega), i_ml_eq (by omega), i_ad_eq (a := 30) (by omega), i_ad_eq (a := 30 + r p * 13) (by omega), i_ad_eq (a := 30 + r p * 13 + r (8 + p)) (by omega)]
          have ex : (30 + r p * 13 + r (8 + p) + 1).toNat = (31 + 13 * (r p).toNat + r (8 + p)).toNat := by omega
          rw [ex, x_rd hC (by omega)]
          have hst := m7 q (r (8 + p) + 1).toNat (by omega) (by omega)
          rw [show 30 + 13 * q + (r (8 + p) + 1).toNat = (31 + 13 * (r p).toNat + r (8 + p)).toNat by omega] at hst
          rw [i_ad_eq (by omega)]
          exact ok_pos (by omega) (ok_pos (by omega) (ok_bd (ok_some ⟨x_rs w0.2 hC (by omega) _, fr_ms (by decide)⟩)))
        · rintro M1 ⟨hC1, hf1⟩
          generalize hr1 : aS r (31 + 13 * (r p).toNat + r (8 + p)).toNat (r (31 + 13 * (r p).toNat + r (8 + p)).toNat + 1) = r1 at hC1
          have o1 : ∀ i, i < 30 → r1 i = r i := fun i hi => by rw [← hr1, aSn, if_neg (by omega)]
          have hJ1 : rJ r1 := by
            obtain ⟨j1, j2, j3⟩ := hJ
            exact ⟨fun i hi => by rw [o1 _ (by omega)]; exact j1 i hi, fun i hi => by rw [o1 _ (by omega)]; exact j2 i hi, by rw [o1 29 (by omega)]; exact j3⟩
          have hK1 := KA_fr hf1 (by decide) hK
          have hb1 := am_b (L := 1) (p := p) (h := r p) (by omega) hA hX hJ1 (by omega) (hh 1 (by omega))
          have hb0 := am_b (L := 0) (p := p) (h := r p) (by omega) hA hX hJ1 (by omega) (hh 0 (by omega))
          refine ok_bind (x_am (L := 1) (p := p) (h := r p) (by omega) hA hX hJ1 hC1 hK1 (by omega) (hh 1 (by omega))) (fun y hy => ?_)
          have hC2 : CX 24 36 1 (rU A0 r1) y.2 := CX_fr hy.2 (by decide) hC1
          unfold f_Moment_earn
          rw [hy.1, x_rd hC2 (by omega), o1 28 (by omega), i_ad_eq (by omega)]
          refine ok_be rfl ?_
          have hC3 := x_rs w0.2 hC2 (i := 28) (by omega) (r 28 + am M0 1 (rU A0 r1) p (r p))
          have hf3 : fr [36, 65] M (pm_ms y.2 36 28 (r 28 + am M0 1 (rU A0 r1) p (r p))) := fr_tr (fr_tr hf1 hy.2 (S := [36, 65]) (by decide) (by decide)) (S2 := [36]) (fr_ms (by decide)) (by decide) (by decide)
          generalize pm_ms y.2 36 28 (r 28 + am M0 1 (rU A0 r1) p (r p)) = M3 at hC3 hf3
          have hJ2 : rJ (aS r1 28 (r 28 + am M0 1 (rU A0 r1) p (r p))) := by
            obtain ⟨j1, j2, j3⟩ := hJ1
            exact ⟨fun i hi => by rw [aSn, if_neg (by omega)]; exact j1 i hi, fun i hi => by rw [aSn, if_neg (by omega)]; exact j2 i hi, by rw [aSn, if_neg (by omega)]; exact j3⟩
          have hcg : am M0 0 (rU A0 (aS r1 28 (r 28 + am M0 1 (rU A0 r1) p (r p)))) p (r p) = am M0 0 (rU A0 r1) p (r p) := by
            have hk : ∀ k, k ≠ 98 → rU A0 (aS r1 28 (r 28 + am M0 1 (rU A0 r1) p (r p))) k = rU A0 r1 k := by
              intro k hk
              rw [← rU_aS (by omega), aSn, if_neg hk]
            exact am_congr (hk 2 (by omega)) (hk 3 (by omega)) (nmf_congr (fun k a _ => hk k a) (by omega) (by omega) (by rw [rU_o (by omega)]; omega))
          refine ok_bind (x_am (L := 0) (p := p) (h := r p) (by omega) hA hX hJ2 hC3 (KA_fr hf3 (by decide) hK) (by omega) (hh 0 (by omega))) (fun z hz => ?_)
          have hC4 : CX 24 36 1 (rU A0 (aS r1 28 (r 28 + am M0 1 (rU A0 r1) p (r p)))) z.2 := CX_fr hz.2 (by decide) hC3
          have m4q := m4 (r p).toNat (by omega)
          have e16 : aS r1 28 (r 28 + am M0 1 (rU A0 r1) p (r p)) (16 + (r p).toNat) = r (16 + (r p).toNat) := by rw [aSn, if_neg (by omega), o1 _ (by omega)]
          unfold f_Moment_owe
          rw [hz.1, hcg, i_ad_eq (a := 16) (by omega), show ((16 : Int) + r p).toNat = 16 + (r p).toNat by omega, x_rd hC4 (by omega), e16, i_ad_eq (by omega)]
          refine ok_bind (ok_pos (by omega) (ok_pos (by omega) (ok_bd (ok_some rfl)))) ?_
          rintro _ rfl
          have ed : d1 M0 A0 r p = aS (aS r1 28 (r 28 + am M0 1 (rU A0 r1) p (r p))) (16 + (r p).toNat) (r (16 + (r p).toNat) + am M0 0 (rU A0 r1) p (r p)) := by unfold d1; rw [if_neg e, hr1]
          have hf5 : fr [36, 65] M (pm_ms z.2 36 (16 + (r p).toNat) (r (16 + (r p).toNat) + am M0 0 (rU A0 r1) p (r p))) := fr_tr (fr_tr hf3 hz.2 (S := [36, 65]) (by decide) (by decide)) (S2 := [36]) (fr_ms (by decide)) (by decide) (by decide)
          have hm2 : mid (A0 0) (A0 1) (p + 1) (d1 M0 A0 r p) := by
            rw [ed, ← hr1]
            exact mid_2 hm hp8 w1.2 e rfl (by rw [hr1]; exact hb1.1) (by rw [hr1]; exact hb0.1)
          refine ok_mono (ih n (p + 1) (d1 M0 A0 r p) _ (by omega) (by omega) (by rw [ed]; exact x_rs w0.2 hC4 (by omega) _) hm2 (KA_fr hf5 (by decide) hK)) (fun M' h' => ⟨h'.1, fr_2 hf5 h'.2⟩)
end
