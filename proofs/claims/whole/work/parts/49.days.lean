/-! DAYS PASS: the reference; the falls; whole days -/
section
variable {A A' A0 r : Nat → Int} {M M0 : pm_M} {h : Int} {p : Nat}
theorem ms88 (hM : M 88 = rU A0 r) {i : Nat} (hi : i < 186) (v : Int) : pm_ms M 88 (70 + i) v 88 = rU A0 (aS r i v) := by rw [msc, hM, rU_aS hi]
theorem d1_n (e : r p ≠ -1) {x : Nat} (hx : x = (31 + 13 * (r p).toNat + r (8 + p)).toNat) : d1 M0 A0 r p = aS (aS (aS r x (r x + 1)) 28 (r 28 + am M0 1 (rU A0 (aS r x (r x + 1))) p (r p))) (16 + (r p).toNat) (r (16 + (r p).toNat) + am M0 0 (rU A0 (aS r x (r x + 1))) p (r p)) := by
  unfold d1
  rw [if_neg e, hx]
theorem q_d1L (hA : WF A0) (hX : TXS M0 (A0 2)) : ∀ (k n p : Nat) (r : Nat → Int) (M : pm_M), p + k = (A0 0).toNat → k < n → M 88 = rU A0 r → mid (A0 0) (A0 1) p r → KA M0 M → ok (f_Q_dayPasses_L2 n p M) (fun M' => M' 88 = rU A0 (d1s M0 A0 k p r) ∧ fr [88, 108, 109] M M') ∧ mid (A0 0) (A0 1) (p + k) (d1s M0 A0 k p r) ∧ d1s M0 A0 k p r 29 = r 29 := by
  have w0 := hA.1
  have w1 := hA.2.1
  intro k
  induction k with
  | zero =>
    intro n p r M hp hn hM hm hK
    cases n with
    | zero => omega
    | succ n =>
      unfold f_Q_dayPasses_L2
      refine ⟨ok_pos (by rw [hM, rU_o (by omega)]; omega) (ok_some ⟨hM, fr_rf _ _⟩), hm, rfl⟩
  | succ k ih =>
    intro n p r M hp hn hM hm hK
    cases n with
    | zero => omega
    | succ n =>
      have hp8 : p < 8 := by omega
      have hJ := mid_rJ hm
      have hm' := id hm
      obtain ⟨m1, m2, m3, m4, m5, m6, m7⟩ := hm'
      have mp := m1 p hp8
      have mn := m3 p hp8
      have fin2 : ∀ (r1 : Nat → Int) (T : Option pm_M), d1 M0 A0 r p = r1 → mid (A0 0) (A0 1) (p + 1) r1 → r1 29 = r 29 → (∀ _ : mid (A0 0) (A0 1) (p + 1) r1, ∃ M1, T = f_Q_dayPasses_L2 n ((p + 1 : Nat) : Int) M1 ∧ M1 88 = rU A0 r1 ∧ fr [88, 108, 109] M M1) → ok T (fun M' => M' 88 = rU A0 (d1s M0 A0 (k + 1) p r) ∧ fr [88, 108, 109] M M') ∧ mid (A0 0) (A0 1) (p + (k + 1)) (d1s M0 A0 (k + 1) p r) ∧ d1s M0 A0 (k + 1) p r 29 = r 29 := by
        intro r1 T e1 h1 h29 h2
        obtain ⟨M1, rfl, g1, g2⟩ := h2 h1
        have := ih n (p + 1) r1 M1 (by omega) (by omega) g1 h1 (KA_fr g2 (by decide) hK)
        rw [d1s, e1]
        exact ⟨ok_mono this.1 (fun M' h' => ⟨h'.1, fr_2 g2 h'.2⟩), by rw [show p + (k + 1) = p + 1 + k by omega]; exact this.2.1, this.2.2.trans h29⟩
      have e70 : M 88 (70 + p) = r p := by rw [hM, rU_i (by omega)]
      have e78 : M 88 (78 + p) = r (8 + p) := by rw [hM, show 78 + p = 70 + (8 + p) by omega, rU_i (by omega)]
      by_cases e : r p = -1
      · have hb := am_b (L := 3) (p := p) (h := -1) (by omega) hA hX hJ (by omega) (Or.inl ⟨rfl, rfl⟩)
        have ed : d1 M0 A0 r p = aS r 28 (r 28 + am M0 3 (rU A0 r) p (-1)) := by unfold d1; rw [if_pos e]
        obtain ⟨y, ey, hy⟩ := q_am (L := 3) (p := p) (h := -1) (by omega) hA hX hJ hM hK (by omega) (Or.inl ⟨rfl, rfl⟩)
        refine fin2 _ _ ed (mid_1 hm hp8 e hb.1) (by rw [aSn, if_neg (by omega)]) (fun _ => ?_)
        refine ⟨pm_ms y.2 88 98 (r 28 + am M0 3 (rU A0 r) p (-1)), ?_, ?_, fr_tr hy.2 (S2 := [88]) (fr_ms (by decide)) (by decide) (by decide)⟩
        · rw [show ((3 : Nat) : Int) = 3 from rfl] at ey
          rw [f_Q_dayPasses_L2, hM, rU_o (A := A0) (r := r) (k := 0) (by omega), if_neg (by omega), i_ad_eq (a := 70) (by omega), if_pos (by omega)]
          dsimp only [pm_bd]
          rw [show ((70 : Int) + (p : Int)).toNat = 70 + p by omega, rU_i (by omega), if_pos e, ey, ob, hy.1, show (98 : Nat) = 70 + 28 from rfl, rU_i (by omega), i_ad_eq (by omega), i_ad_eq (by omega)]
          rfl
        · exact ms88 (by rw [hy.2 88 (by decide)]; exact hM) (i := 28) (by omega) _
      · obtain ⟨q, eq⟩ : ∃ q : Nat, r p = q := ⟨(r p).toNat, by omega⟩
        have hh : ∀ L : Nat, L < 3 → hOK A0 L (r p) := fun L hL => Or.inr ⟨by omega, by omega, by omega⟩
        have hst := m7 q (r (8 + p) + 1).toNat (by omega) (by omega)
        have ex : (100 + 13 * r p + r (8 + p) + 1).toNat = 70 + (31 + 13 * (r p).toNat + r (8 + p)).toNat := by omega
        rw [show 30 + 13 * q + (r (8 + p) + 1).toNat = (31 + 13 * (r p).toNat + r (8 + p)).toNat by omega] at hst
        have hxb : (31 + 13 * (r p).toNat + r (8 + p)).toNat < 186 ∧ 30 ≤ (31 + 13 * (r p).toNat + r (8 + p)).toNat := by omega
        have hM1 := ms88 hM hxb.1 (r (31 + 13 * (r p).toNat + r (8 + p)).toNat + 1)
        have hf1 : fr [88] M (pm_ms M 88 (70 + (31 + 13 * (r p).toNat + r (8 + p)).toNat) (r (31 + 13 * (r p).toNat + r (8 + p)).toNat + 1)) := fr_ms (by decide)
        have m4q := m4 (r p).toNat (by omega)
        have d1e := d1_n (M0 := M0) (A0 := A0) e (x := (31 + 13 * (r p).toNat + r (8 + p)).toNat) rfl
        have mid2 := fun v u a b => mid_2 (x := (31 + 13 * (r p).toNat + r (8 + p)).toNat) (v := v) (u := u) hm hp8 w1.2 e rfl a b
        have rdx : rU A0 r (70 + (31 + 13 * (r p).toNat + r (8 + p)).toNat) = r (31 + 13 * (r p).toNat + r (8 + p)).toNat := rU_i hxb.1
        generalize hx : (31 + 13 * (r p).toNat + r (8 + p)).toNat = x at ex hst hxb hM1 hf1 d1e mid2 rdx
        generalize hr1 : aS r x (r x + 1) = r1 at hM1 d1e mid2
        have o1 : ∀ i, i < 30 → r1 i = r i := fun i hi => by rw [← hr1, aSn, if_neg (by omega)]
        have hJ1 : rJ r1 := by
          obtain ⟨j1, j2, j3⟩ := hJ
          exact ⟨fun i hi => by rw [o1 _ (by omega)]; exact j1 i hi, fun i hi => by rw [o1 _ (by omega)]; exact j2 i hi, by rw [o1 29 (by omega)]; exact j3⟩
        generalize hMM1 : pm_ms M 88 (70 + x) (r x + 1) = M1 at hM1 hf1
        have hK1 := KA_fr hf1 (by decide) hK
        have hb1 := am_b (L := 1) (p := p) (h := r p) (by omega) hA hX hJ1 (by omega) (hh 1 (by omega))
        have hb0 := am_b (L := 0) (p := p) (h := r p) (by omega) hA hX hJ1 (by omega) (hh 0 (by omega))
        obtain ⟨y, ey, hy⟩ := q_am (L := 1) (p := p) (h := r p) (by omega) hA hX hJ1 hM1 hK1 (by omega) (hh 1 (by omega))
        have hM2 : y.2 88 = rU A0 r1 := by rw [hy.2 88 (by decide)]; exact hM1
        obtain ⟨z, ez, hz⟩ := q_am (L := 0) (p := p) (h := r p) (by omega) hA hX hJ1 hM2 (KA_fr hy.2 (by decide) hK1) (by omega) (hh 0 (by omega))
        have hM3 : z.2 88 = rU A0 r1 := by rw [hz.2 88 (by decide)]; exact hM2
        have hM4 := ms88 hM3 (i := 28) (by omega) (r 28 + am M0 1 (rU A0 r1) p (r p))
        have hM5 := ms88 hM4 (i := 16 + (r p).toNat) (by omega) (r (16 + (r p).toNat) + am M0 0 (rU A0 r1) p (r p))
        have hf3 : fr [88, 108, 109] M z.2 := fr_tr (fr_tr hf1 hy.2 (S := [88, 108, 109]) (by decide) (by decide)) hz.2 (by decide) (by decide)
        refine fin2 _ _ d1e (mid2 _ _ hb1.1 hb0.1) (by rw [aSn, if_neg (by omega), aSn, if_neg (by omega), o1 29 (by omega)]) (fun _ => ?_)
        refine ⟨_, ?_, hM5, fr_tr (fr_tr hf3 (S2 := [88]) (fr_ms (by decide)) (S := [88, 108, 109]) (by decide) (by decide)) (S2 := [88]) (fr_ms (by decide)) (by decide) (by decide)⟩
        rw [show ((1 : Nat) : Int) = 1 from rfl] at ey
        rw [show ((0 : Nat) : Int) = 0 from rfl] at ez
        have e16 : aS r1 28 (r 28 + am M0 1 (rU A0 r1) p (r p)) (16 + (r p).toNat) = r (16 + (r p).toNat) := by rw [aSn, if_neg (by omega), o1 _ (by omega)]
        have c70 : ((70 : Int) + (p : Int)).toNat = 70 + p := by omega
        have c78 : ((78 : Int) + (p : Int)).toNat = 78 + p := by omega
        have c86 : ((86 : Int) + r p).toNat = 70 + (16 + (r p).toNat) := by omega
        rw [f_Q_dayPasses_L2, i_ad_eq (a := 70) (by omega), c70, i_ad_eq (a := 78) (by omega), c78]
        dsimp only [pm_bd]
        rw [e70, e78, if_neg (by rw [hM, rU_o (by omega)]; omega), if_pos (by omega), if_neg e, if_pos (by omega), i_ml_eq (by omega), i_ad_eq (a := 100) (by omega), i_ad_eq (a := 100 + 13 * r p) (by omega), i_ad_eq (a := 100 + 13 * r p + r (8 + p)) (b := 1) (by omega), if_pos (by omega), if_pos (by omega), ex, show M 88 (70 + x) = r x by rw [hM, rdx], i_ad_eq (a := r x) (by omega), hMM1, ey, ob, ez, ob, i_ad_eq (a := 86) (by omega), if_pos (by omega), if_pos (by omega), c86, hy.1, hz.1, show z.2 88 98 = r 28 by rw [hM3, show (98 : Nat) = 70 + 28 from rfl, rU_i (by omega), o1 28 (by omega)], i_ad_eq (a := r 28) (by omega), show (98 : Nat) = 70 + 28 from rfl, hM4, rU_i (by omega), e16, i_ad_eq (a := r (16 + (r p).toNat)) (by omega), i_ad_eq (a := (p : Int)) (by omega)]
        rfl
-- the falls
theorem x_d2L (hA : WF A0) (hX : TXS M0 (A0 2)) : ∀ (k n p : Nat) (r : Nat → Int) (M : pm_M), p + k = (A0 0).toNat → k < n → CX 24 36 1 (rU A0 r) M → fin (A0 0) (A0 1) r → KA M0 M → ok (f_X_dayPasses_L98 n p M) (fun M' => CX 24 36 1 (rU A0 (d2s M0 A0 k p r)) M' ∧ fr [36, 65] M M') := by
  have w0 := hA.1
  have w1 := hA.2.1
  intro k
  induction k with
  | zero =>
    intro n p r M hp hn hC hm hK
    cases n with
    | zero => omega
    | succ n =>
      unfold f_X_dayPasses_L98 f_Told_plinths
      refine ok_be (congrArg some (hC.1.1.1.trans (rU_o (by omega)))) (ok_pos (by omega) (ok_some ⟨hC, fr_rf _ _⟩))
  | succ k ih =>
    intro n p r M hp hn hC hm hK
    cases n with
    | zero => omega
    | succ n =>
      have hp8 : p < 8 := by omega
      have hJ := fin_rJ hm
      have mp := hm.1.1 p hp8
      rw [aSn, if_neg (by omega)] at mp
      unfold f_X_dayPasses_L98 f_Told_plinths
      refine ok_be (congrArg some (hC.1.1.1.trans (rU_o (by omega)))) (ok_neg (by omega) ?_)
      refine ok_be (x_headAt hC.2.1 (by omega)) ?_
      rw [tn_nat, a_row_rU (by omega), i_ad_eq (a := (p : Int)) (by omega), d2s]
      refine ok_ite (fun e => ?_) (fun e => ?_)
      · have ed : d2 M0 A0 r p = r := by unfold d2; rw [if_pos e]
        rw [ed]
        exact ih n (p + 1) r M (by omega) (by omega) hC hm hK
      · have hh : hOK A0 (4 : Nat) (r p) := Or.inr ⟨by omega, by omega, by omega⟩
        refine ok_bind (x_am (L := 4) (p := p) (h := r p) (by omega) hA hX hJ hC hK (by omega) hh) (fun y hy => ?_)
        have hC2 : CX 24 36 1 (rU A0 r) y.2 := CX_fr hy.2 (by decide) hC
        have hf2 : fr [36, 65] M y.2 := fr_mo hy.2 (by decide)
        rw [hy.1]
        refine ok_ite (fun e2 => ?_) (fun e2 => ?_)
        · have ed : d2 M0 A0 r p = r := by unfold d2; rw [if_neg e, if_pos e2]
          rw [ed]
          exact ok_mono (ih n (p + 1) r _ (by omega) (by omega) hC2 hm (KA_fr hf2 (by decide) hK)) (fun M' h' => ⟨h'.1, fr_2 hf2 h'.2⟩)
        · have ed : d2 M0 A0 r p = aS r p (-1) := by unfold d2; rw [if_neg e, if_neg e2]
          rw [ed]
          unfold f_Moment_stand
          rw [tn_nat]
          refine ok_bind (ok_pos (by omega) (ok_bd (ok_some rfl))) ?_
          rintro _ rfl
          have hf3 : fr [36, 65] M (pm_ms y.2 36 p (-1)) := fr_2 hf2 (fr_ms (by decide))
          exact ok_mono (ih n (p + 1) (aS r p (-1)) _ (by omega) (by omega) (x_rs w0.2 hC2 (by omega) _) (fin_off hm hp8 w1.1) (KA_fr hf3 (by decide) hK)) (fun M' h' => ⟨h'.1, fr_2 hf3 h'.2⟩)
theorem q_d2L (hA : WF A0) (hX : TXS M0 (A0 2)) : ∀ (k n p : Nat) (r : Nat → Int) (M : pm_M), p + k = (A0 0).toNat → k < n → M 88 = rU A0 r → fin (A0 0) (A0 1) r → KA M0 M → ok (f_Q_dayPasses_L125 n p M) (fun M' => M' 88 = rU A0 (d2s M0 A0 k p r) ∧ fr [88, 108, 109] M M') ∧ fin (A0 0) (A0 1) (d2s M0 A0 k p r) ∧ d2s M0 A0 k p r 29 = r 29 := by
  have w0 := hA.1
  have w1 := hA.2.1
  intro k
  induction k with
  | zero =>
    intro n p r M hp hn hM hm hK
    cases n with
    | zero => omega
    | succ n =>
      unfold f_Q_dayPasses_L125
      refine ⟨ok_pos (by rw [hM, rU_o (by omega)]; omega) (ok_some ⟨hM, fr_rf _ _⟩), hm, rfl⟩
  | succ k ih =>
    intro n p r M hp hn hM hm hK
    cases n with
    | zero => omega
    | succ n =>
      have hp8 : p < 8 := by omega
      have hJ := fin_rJ hm
      have mp := hm.1.1 p hp8
      rw [aSn, if_neg (by omega)] at mp
      have fin2 : ∀ (r1 : Nat → Int) (T : Option pm_M), d2 M0 A0 r p = r1 → fin (A0 0) (A0 1) r1 → r1 29 = r 29 → (∃ M1, T = f_Q_dayPasses_L125 n ((p + 1 : Nat) : Int) M1 ∧ M1 88 = rU A0 r1 ∧ fr [88, 108, 109] M M1) → ok T (fun M' => M' 88 = rU A0 (d2s M0 A0 (k + 1) p r) ∧ fr [88, 108, 109] M M') ∧ fin (A0 0) (A0 1) (d2s M0 A0 (k + 1) p r) ∧ d2s M0 A0 (k + 1) p r 29 = r 29 := by
        intro r1 T e1 h1 h29 h2
        obtain ⟨M1, rfl, g1, g2⟩ := h2
        have := ih n (p + 1) r1 M1 (by omega) (by omega) g1 h1 (KA_fr g2 (by decide) hK)
        rw [d2s, e1]
        exact ⟨ok_mono this.1 (fun M' h' => ⟨h'.1, fr_2 g2 h'.2⟩), this.2.1, this.2.2.trans h29⟩
      have same : ∀ N : pm_M, N 88 = rU A0 r → pm_ms N 88 (70 + p) (N 88 (70 + p)) 88 = rU A0 r := fun N hN => by rw [msc, aS_same, hN]
      have c70 : ((70 : Int) + (p : Int)).toNat = 70 + p := by omega
      by_cases e : r p = -1
      · have ed : d2 M0 A0 r p = r := by unfold d2; rw [if_pos e]
        refine fin2 _ _ ed hm rfl ⟨_, ?_, same M hM, fr_ms (by decide)⟩
        rw [f_Q_dayPasses_L125, if_neg (by rw [hM, rU_o (by omega)]; omega), q_fl0 hA hX hM hK hp8 e, ob, if_pos rfl, i_ad_eq (a := 70) (by omega), c70, if_pos (by omega), if_pos (by omega), i_ad_eq (a := (p : Int)) (by omega)]
        rfl
      · obtain ⟨y, ey, hy⟩ := q_fl hA hX hJ hM hK (p := p) (by omega) hp8 (Or.inr ⟨by omega, by omega, by omega⟩)
        have hM2 : y.2 88 = rU A0 r := by rw [hy.2 88 (by decide)]; exact hM
        have hf2 : fr [88, 108, 109] M y.2 := fr_mo hy.2 (by decide)
        by_cases e2 : am M0 4 (rU A0 r) p (r p) = 0
        · have ed : d2 M0 A0 r p = r := by unfold d2; rw [if_neg e, if_pos e2]
          refine fin2 _ _ ed hm rfl ⟨_, ?_, same y.2 hM2, fr_2 hf2 (fr_ms (by decide))⟩
          rw [f_Q_dayPasses_L125, if_neg (by rw [hM, rU_o (by omega)]; omega), ey, ob, hy.1, if_pos e2, i_ad_eq (a := 70) (by omega), c70, if_pos (by omega), if_pos (by omega), i_ad_eq (a := (p : Int)) (by omega)]
          rfl
        · have ed : d2 M0 A0 r p = aS r p (-1) := by unfold d2; rw [if_neg e, if_neg e2]
          refine fin2 _ _ ed (fin_off hm hp8 w1.1) (by rw [aSn, if_neg (by omega)]) ⟨_, ?_, ms88 hM2 (i := p) (by omega) (-1), fr_2 hf2 (fr_ms (by decide))⟩
          rw [f_Q_dayPasses_L125, if_neg (by rw [hM, rU_o (by omega)]; omega), ey, ob, hy.1, if_neg e2, i_ad_eq (a := 70) (by omega), c70, if_pos (by omega), i_ad_eq (a := (p : Int)) (by omega)]
          rfl
/-- a day -/
noncomputable def dA (M0 : pm_M) (A0 r : Nat → Int) : Nat → Int :=
  aS (d2s M0 A0 (A0 0).toNat 0 (d1s M0 A0 (A0 0).toNat 0 r)) 29 (r 29 + 1)
theorem q_day (hA : WF A0) (hX : TXS M0 (A0 2)) (hM : M 88 = rU A0 r) (hr : rW (A0 0) (A0 1) r) (hd : r 29 ≤ 998) (hK : KA M0 M) : ok (f_Q_dayPasses M) (fun M' => M' 88 = rU A0 (dA M0 A0 r) ∧ fr [88, 108, 109] M M') ∧ rW (A0 0) (A0 1) (dA M0 A0 r) ∧ dA M0 A0 r 29 = r 29 + 1 := by
  have w0 := hA.1
  have h29 := hr.2.2.2.2.2.1
  have a1 := q_d1L hA hX (A0 0).toNat pm_F 0 r M (by omega) (by unfold pm_F; omega) hM (mid_0 hr hd) hK
  have hfin : fin (A0 0) (A0 1) (d1s M0 A0 (A0 0).toNat 0 r) := mid_fin a1.2.1 (by omega)
  obtain ⟨M1, e1, h1, hf1⟩ := a1.1
  have a2 := q_d2L hA hX (A0 0).toNat pm_F 0 _ M1 (by omega) (by unfold pm_F; omega) h1 hfin (KA_fr hf1 (by decide) hK)
  obtain ⟨M2, e2, h2, hf2⟩ := a2.1
  have e29 : d2s M0 A0 (A0 0).toNat 0 (d1s M0 A0 (A0 0).toNat 0 r) 29 = r 29 := a2.2.2.trans a1.2.2
  refine ⟨?_, ?_, ?_⟩
  · unfold f_Q_dayPasses
    refine ok_be e1 (ok_be e2 (ok_bd (ok_some ⟨?_, fr_2 (fr_2 hf1 hf2) (fr_ms (by decide))⟩)))
    have := ms88 h2 (i := 29) (by omega) (r 29 + 1)
    rw [show (99 : Nat) = 70 + 29 from rfl, h2, rU_i (by omega), e29, i_ad_eq (by omega), this]
    rfl
  · have := a2.2.1.1
    rw [e29] at this
    exact this
  · unfold dA; rw [aSn, if_pos rfl]
theorem x_day (hA : WF A0) (hX : TXS M0 (A0 2)) (hC : CX 24 36 1 (rU A0 r) M) (hr : rW (A0 0) (A0 1) r) (hd : r 29 ≤ 998) (hK : KA M0 M) : ok (f_X_dayPasses M) (fun M' => CX 24 36 1 (rU A0 (dA M0 A0 r)) M' ∧ fr [36, 65] M M') := by
  have w0 := hA.1
  have h29 := hr.2.2.2.2.2.1
  have a1 := q_d1L hA hX (A0 0).toNat pm_F 0 r (fun c => if c = 88 then rU A0 r else M0 c) (by omega) (by unfold pm_F; omega) (by simp) (mid_0 hr hd) (fun c hc => by
    have : c ≠ 88 := fun z => by subst z; revert hc; decide
    simp [this])
  have hfin : fin (A0 0) (A0 1) (d1s M0 A0 (A0 0).toNat 0 r) := mid_fin a1.2.1 (by omega)
  obtain ⟨N1, _, n1, nf1⟩ := a1.1
  have a2 := q_d2L hA hX (A0 0).toNat pm_F 0 _ N1 (by omega) (by unfold pm_F; omega) n1 hfin (KA_fr nf1 (by decide) (fun c hc => by
    have : c ≠ 88 := fun z => by subst z; revert hc; decide
    simp [this]))
  have e29 : d2s M0 A0 (A0 0).toNat 0 (d1s M0 A0 (A0 0).toNat 0 r) 29 = r 29 := a2.2.2.trans a1.2.2
  unfold f_X_dayPasses f_Moment_nextDay
  refine ok_bind (x_d1L hA hX (A0 0).toNat pm_F 0 r M (by omega) (by unfold pm_F; omega) hC (mid_0 hr hd) hK) (fun M1 h1 => ?_)
  refine ok_bind (x_d2L hA hX (A0 0).toNat pm_F 0 _ M1 (by omega) (by unfold pm_F; omega) h1.1 hfin (KA_fr h1.2 (by decide) hK)) (fun M2 h2 => ?_)
  rw [x_rd h2.1 (by omega), e29, i_ad_eq (by omega)]
  refine ok_be rfl (ok_some ⟨x_rs w0.2 h2.1 (by omega) _, fr_2 (fr_2 h1.2 h2.2) (fr_ms (by decide))⟩)
end
