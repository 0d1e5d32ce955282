/-! BEST: the call, both sides -/
section
variable {A : Nat → Int} {M0 : pm_M} {P H : Nat} {x : Nat → Nat} {M : pm_M}
theorem q_95 (h12 : H ≤ 12) (h8 : P ≤ 8) (hb : ∀ p, p < P → bRow M0 A H p M) (hbb : ∀ p h, p < P → h < H → -999 ≤ br M0 A p h ∧ br M0 A p h ≤ 999) (hD : DPS M0 A P H (fun p s => M 111 (4096 * p + s))) (hbd : ∀ p, p ≤ P → ∀ s', s' < 2 ^ H → -8000 ≤ M 111 (4096 * p + s') ∧ M 111 (4096 * p + s') ≤ 8000) (hx : best M0 A P H x) (y1 : Int) {p g : Nat} (hp : p < P) (hg : x p = g + 1) (heq : br M0 A p g + M 111 (4096 * (p + 1) + (sB' x p ||| 2 ^ g)) = M 111 (4096 * p + sB' x p)) : ∀ (t nn h : Nat), h + t = g → t < nn → f_Q_best_L95 M nn y1 (sB' x p) h p = some (y1, (sB' x p : Int), (g : Int), (p : Int)) := by
  have hp2 := p2_le (H := H) h12
  have hs := sB_lt hx.1.1 p (by omega)
  have hgH := hx.1.1 p hp
  have htg : (sB' x p).testBit g = false := by
    have := sB_av hx.1 (p := p) (by omega) p (Nat.le_refl _) hp (by omega)
    rw [hg, Nat.add_sub_cancel] at this
    exact this
  intro t
  induction t with
  | zero =>
    intro nn h hh hnn
    cases nn with
    | zero => omega
    | succ nn =>
      rw [show h = g by omega]
      have hor := or_lt (H := H) hs (show g < H by omega)
      have b1 := hbb p g hp (by omega)
      have b2 := hbd (p + 1) (by omega) _ hor
      unfold f_Q_best_L95
      rw [sr_an (by omega) (by omega), htg, if_neg (by decide), or_sl (by omega) (by omega), i_ml_eq (a := 13) (by omega), i_ad_eq (a := 13 * (p : Int)) (by omega), i_ad_eq (a := (p : Int)) (b := 1) (by omega), i_ml_eq (a := 4096) (b := (p : Int) + 1) (by omega), i_ml_eq (a := 4096) (b := (p : Int)) (by omega), i_ad_eq (a := 4096 * ((p : Int) + 1)) (by omega), i_ad_eq (a := 4096 * (p : Int)) (by omega), if_pos (by omega), if_pos (by omega), if_pos (by omega), show (13 * (p : Int) + (g : Int)).toNat = 13 * p + g by omega, show (4096 * ((p : Int) + 1) + ((sB' x p ||| 2 ^ g : Nat) : Int)).toNat = 4096 * (p + 1) + (sB' x p ||| 2 ^ g) by omega, show (4096 * (p : Int) + (sB' x p : Int)).toNat = 4096 * p + sB' x p by omega, (hb p hp).1 g (by omega), i_ad_eq (a := br M0 A p g) (by omega), if_pos heq]
  | succ t ih =>
    intro nn h hh hnn
    cases nn with
    | zero => omega
    | succ nn =>
      have := ih nn (h + 1) (by omega) (by omega)
      rw [show ((h + 1 : Nat) : Int) = (h : Int) + 1 by omega] at this
      unfold f_Q_best_L95
      rw [sr_an (by omega) (by omega), i_ad_eq (a := (h : Int)) (b := 1) (by omega), this]
      cases htb : (sB' x p).testBit h
      · have hor := or_lt (H := H) hs (show h < H by omega)
        have b1 := hbb p h hp (by omega)
        have b2 := hbd (p + 1) (by omega) _ hor
        have hne := no_low (x := x) h12 h8 hD hx (p := p) (d := h + 1) (s' := sB' x p ||| 2 ^ h) hp (by omega) hor (Or.inr ⟨by omega, by omega, by rw [Nat.add_sub_cancel]; exact htb, by rw [Nat.add_sub_cancel]⟩)
        rw [if_neg (by omega), show ((h + 1 : Nat) : Int) - 1 = (h : Int) by omega] at hne
        have hne' : br M0 A p h + M 111 (4096 * (p + 1) + (sB' x p ||| 2 ^ h)) ≠ M 111 (4096 * p + sB' x p) := hne
        rw [if_neg (by decide), or_sl (by omega) (by omega), i_ml_eq (a := 13) (by omega), i_ad_eq (a := 13 * (p : Int)) (by omega), i_ad_eq (a := (p : Int)) (b := 1) (by omega), i_ml_eq (a := 4096) (b := (p : Int) + 1) (by omega), i_ml_eq (a := 4096) (b := (p : Int)) (by omega), i_ad_eq (a := 4096 * ((p : Int) + 1)) (by omega), i_ad_eq (a := 4096 * (p : Int)) (by omega), if_pos (by omega), if_pos (by omega), if_pos (by omega), show (13 * (p : Int) + (h : Int)).toNat = 13 * p + h by omega, show (4096 * ((p : Int) + 1) + ((sB' x p ||| 2 ^ h : Nat) : Int)).toNat = 4096 * (p + 1) + (sB' x p ||| 2 ^ h) by omega, show (4096 * (p : Int) + (sB' x p : Int)).toNat = 4096 * p + sB' x p by omega, (hb p hp).1 h (by omega), i_ad_eq (a := br M0 A p h) (by omega), if_neg hne']
      · rw [if_pos (by decide)]
theorem q_40 (h12 : H ≤ 12) (h8 : P ≤ 8) (hb : ∀ p, p < P → bRow M0 A H p M) (hbb : ∀ p h, p < P → h < H → -999 ≤ br M0 A p h ∧ br M0 A p h ≤ 999) (hpr : ∀ p, p < P → 0 ≤ am M0 3 A p (-1) ∧ am M0 3 A p (-1) ≤ 999) (hD : DPS M0 A P H (fun p s => M 111 (4096 * p + s))) (hbd : ∀ p, p ≤ P → ∀ s', s' < 2 ^ H → -8000 ≤ M 111 (4096 * p + s') ∧ M 111 (4096 * p + s') ≤ 8000) (hx : best M0 A P H x) {pl : Nat} (hpl : pl < P) : ∀ (t nn p : Nat) (f : Int), p + t = pl + 1 → t < nn → (p = pl + 1 → f = (x pl : Int) - 1) → f_Q_best_L40 M nn pl (sB' x p) f p = some ((x pl : Int) - 1) := by
  have hp2 := p2_le (H := H) h12
  intro t
  induction t with
  | zero =>
    intro nn p f hp hnn hf
    cases nn with
    | zero => omega
    | succ nn =>
      unfold f_Q_best_L40
      rw [if_pos (by omega), hf (by omega)]
  | succ t ih =>
    intro nn p f hp hnn hf
    cases nn with
    | zero => omega
    | succ nn =>
      have hs := sB_lt hx.1.1 p (by omega)
      have b1 := hpr p (by omega)
      have b2 := hbd (p + 1) (by omega) _ hs
      have nxt : ∀ f' : Int, (p = pl → f' = (x pl : Int) - 1) → f_Q_best_L40 M nn pl (sB' x (p + 1)) f' ((p : Int) + 1) = some ((x pl : Int) - 1) := fun f' hf' => by
        have := ih nn (p + 1) f' (by omega) (by omega) (fun e => hf' (by omega))
        rw [show ((p + 1 : Nat) : Int) = (p : Int) + 1 by omega] at this
        exact this
      obtain ⟨k, hk⟩ : ∃ k, p + 1 + k = P := ⟨P - (p + 1), by omega⟩
      have d0 := D_eq hD hx p (k + 1) (by omega)
      have d1 := D_eq hD hx (p + 1) k (by omega)
      rw [sfx] at d0
      have d0' : vl M0 A x p + sfx k (p + 1) (vl M0 A x) = M 111 (4096 * p + sB' x p) := d0
      have d1' : sfx k (p + 1) (vl M0 A x) = M 111 (4096 * (p + 1) + sB' x (p + 1)) := d1
      unfold f_Q_best_L40
      rw [if_neg (by omega), i_ml_eq (a := 13) (by omega), i_ad_eq (a := 13 * (p : Int)) (by omega), i_ad_eq (a := (p : Int)) (b := 1) (by omega), i_ml_eq (a := 4096) (b := (p : Int) + 1) (by omega), i_ml_eq (a := 4096) (b := (p : Int)) (by omega), i_ad_eq (a := 4096 * ((p : Int) + 1)) (by omega), i_ad_eq (a := 4096 * (p : Int)) (by omega), if_pos (by omega), if_pos (by omega), if_pos (by omega), show (13 * (p : Int) + 12).toNat = 13 * p + 12 by omega, show (4096 * ((p : Int) + 1) + (sB' x p : Int)).toNat = 4096 * (p + 1) + sB' x p by omega, show (4096 * (p : Int) + (sB' x p : Int)).toNat = 4096 * p + sB' x p by omega, (hb p (by omega)).2, i_ad_eq (a := am M0 3 A p (-1)) (by omega)]
      by_cases e : x p = 0
      · have ev : vl M0 A x p = am M0 3 A p (-1) := by unfold vl; rw [if_pos e]
        have es : sB' x (p + 1) = sB' x p := by rw [sB', if_pos e]
        rw [es] at d1' nxt
        rw [if_pos (by omega)]
        exact nxt (-1) (fun h => by rw [← h, e]; rfl)
      · obtain ⟨g, hg⟩ : ∃ g, x p = g + 1 := ⟨x p - 1, by omega⟩
        have ev : vl M0 A x p = br M0 A p g := by
          unfold vl br
          rw [if_neg e, hg, show ((g + 1 : Nat) : Int) - 1 = (g : Int) by omega]
        have es : sB' x (p + 1) = sB' x p ||| 2 ^ g := by rw [sB', if_neg e, hg, Nat.add_sub_cancel]
        have hne := no_low (x := x) h12 h8 hD hx (p := p) (d := 0) (s' := sB' x p) (by omega) (by omega) hs (Or.inl ⟨rfl, rfl⟩)
        rw [if_pos rfl] at hne
        have hne' : am M0 3 A p (-1) + M 111 (4096 * (p + 1) + sB' x p) ≠ M 111 (4096 * p + sB' x p) := hne
        rw [es] at d1' nxt
        have hgH := hx.1.1 p (by omega)
        have h95 := q_95 h12 h8 hb hbb hD hbd hx (pl : Int) (p := p) (g := g) (by omega) hg (by omega) g pm_F 0 (by omega) (by unfold pm_F; omega)
        rw [show ((0 : Nat) : Int) = 0 from rfl] at h95
        rw [if_neg hne', h95, ob]
        dsimp only [pm_bd]
        rw [or_sl (by omega) (by omega), i_ad_eq (a := (p : Int)) (by omega)]
        exact nxt g (fun h => by rw [← h, hg]; omega)
theorem st_best (hS : St M) (hX : TXS M (M 88 2)) (w : Int) : ok (f_X_best w M) (fun y => ok (f_Q_best w y.2) (fun z => EN M y z)) := by
  obtain ⟨hA, hC⟩ := id hS
  have w0 := hA.1
  have w1 := hA.2.1
  obtain ⟨P, eP⟩ : ∃ P : Nat, M 88 0 = P := ⟨(M 88 0).toNat, by omega⟩
  obtain ⟨H, eH⟩ : ∃ H : Nat, M 88 1 = H := ⟨(M 88 1).toNat, by omega⟩
  -- what both find
  have main : ∀ M1, fr [65, 67, 68, 69, 70, 71, 72, 73, 74, 75, 76] M M1 → PLC M (M 88) P H (Cs M (M 88)) M1 → ∃ x, best M (M 88) P H x ∧ (∀ p, p < P → M1 76 p = (x p : Int) - 1) ∧ M1 67 12 = smv P (vl M (M 88) x) ∧ ∀ T : pm_M → Option (Int × pm_M), (∀ M2, fr [108, 109, 110, 111] M1 M2 → (∀ p, p < P → bRow M (M 88) H p M2) → DPS M (M 88) P H (fun p s => M2 111 (4096 * p + s)) → (∀ p, p ≤ P → ∀ s', s' < 2 ^ H → -8000 ≤ M2 111 (4096 * p + s') ∧ M2 111 (4096 * p + s') ≤ 8000) → ∀ v, T M2 = some (v, M2) → True) → True := by
    intro M1 f1 hpl
    obtain ⟨mt, m1, m2, m3, m4, m5⟩ := hpl
    obtain ⟨p1, p2, p3⟩ := plc_best (M0 := M) eH (by omega) (by omega) m1 m2 m3
    refine ⟨xm H mt, ⟨p1, p3⟩, fun p hp => ?_, by rw [m5, p2], fun _ _ => trivial⟩
    rw [m4 p hp]
    unfold xm
    by_cases e : mt p ≤ H
    · rw [if_pos e, if_pos e]
    · rw [if_neg e, if_neg e]; rfl
  have hbb : ∀ p h, p < P → h < H → -999 ≤ br M (M 88) p h ∧ br M (M 88) p h ≤ 999 := fun p h hp hh => by
    have b1 := am_b' (M0 := M) (L := 1) (h := (h : Int)) (by omega) hA hX (p := p) (by omega) (Or.inr ⟨by omega, by omega, by omega⟩)
    have b0 := am_b' (M0 := M) (L := 0) (h := (h : Int)) (by omega) hA hX (p := p) (by omega) (Or.inr ⟨by omega, by omega, by omega⟩)
    unfold br
    omega
  have hpr : ∀ p, p < P → 0 ≤ am M 3 (M 88) p (-1) ∧ am M 3 (M 88) p (-1) ≤ 999 := fun p hp => am_b' (M0 := M) (L := 3) (h := -1) (by omega) hA hX (p := p) (by omega) (Or.inl ⟨rfl, rfl⟩)
  have fin : ∀ (M1 M2 : pm_M) (u v : Int), u = v → fr [65, 67, 68, 69, 70, 71, 72, 73, 74, 75, 76] M M1 → fr [108, 109, 110, 111] M1 M2 → EN M (u, M1) (v, M2) := fun M1 M2 u v e f1 f2 =>
    fr_EN hS e (fr_tr f1 f2 (S := [65, 67, 68, 69, 70, 71, 72, 73, 74, 75, 76, 108, 109, 110, 111]) (by decide) (by decide)) (by decide) (by decide) (by decide)
  unfold f_X_best
  by_cases hw : w = -1
  · rw [if_pos hw]
    refine ok_bind (x_solve hA hX eH eP hC (KA_rf M)) (fun M1 h1 => ?_)
    obtain ⟨x, hx, x1, x2, _⟩ := main M1 h1.2 h1.1
    unfold f_Placing_shillings
    refine ok_pos hw (ok_be rfl (ok_some ?_))
    show ok (f_Q_best w M1) _
    unfold f_Q_best
    rw [if_pos hw]
    refine ok_bind (q_laysB hA hX eH eP (by rw [h1.2 88 (by decide)]) (KA_fr h1.2 (by decide) (KA_rf M))) (fun M2 h2 => ok_pos hw (ok_some (fin M1 M2 _ _ ?_ h1.2 h2.2.2.2)))
    have d := D_eq h2.2.1 hx 0 P (by omega)
    have e := sfx_smv (vl M (M 88) x) P 0
    rw [smv, Int.zero_add, Nat.zero_add] at e
    have d' : sfx P 0 (vl M (M 88) x) = M2 111 (4096 * 0 + 0) := d
    rw [x2, e, d']
  · rw [if_neg hw]
    refine ok_pl (x_isPl hC.1.1.1 w) (fun h3 => ok_neg (by omega) ?_) (fun h3 => ok_pos rfl (ok_some ?_))
    · obtain ⟨p, ep⟩ : ∃ p : Nat, w = p := ⟨w.toNat, by omega⟩
      refine ok_bind (x_solve hA hX eH eP hC (KA_rf M)) (fun M1 h1 => ?_)
      obtain ⟨x, hx, x1, x2, _⟩ := main M1 h1.2 h1.1
      unfold f_Placing_headFor
      refine ok_neg hw ?_
      rw [ep, if_pos (by omega), tn_nat, x1 p (by omega)]
      refine ok_be rfl (ok_some ?_)
      show ok (f_Q_best p M1) _
      have e88 : M1 88 = M 88 := h1.2 88 (by decide)
      unfold f_Q_best
      rw [if_neg (by omega)]
      refine ok_pl (q_isPl (congrFun e88 0) hA.1 _) (fun _ => ok_neg (by omega) ?_) (fun z => absurd (by rw [← ep]; exact h3) z)
      refine ok_bind (q_laysB hA hX eH eP e88 (KA_fr h1.2 (by decide) (KA_rf M))) (fun M2 h2 => ok_neg (by omega) ?_)
      have h40 := q_40 (M := M2) (x := x) (by omega) (by omega) h2.1 hbb hpr h2.2.1 h2.2.2.1 hx (pl := p) (by omega) (p + 1) pm_F 0 (-1) (by omega) (by unfold pm_F; omega) (fun h => by omega)
      rw [show sB' x 0 = 0 from rfl, show ((0 : Nat) : Int) = 0 from rfl] at h40
      exact ok_be h40 (ok_some (fin M1 M2 _ _ rfl h1.2 h2.2.2.2))
    · show ok (f_Q_best w M) _
      unfold f_Q_best
      rw [if_neg hw]
      exact ok_pl (q_isPl rfl hA.1 w) (fun z => absurd z h3) (fun _ => ok_pos rfl (ok_some ⟨rfl, hS, rfl, Kp_rf _⟩))
end
