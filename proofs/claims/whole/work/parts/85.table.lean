/-! BEST: the reference's table -/
section
variable {A : Nat → Int} {M0 : pm_M} {P H : Nat}
/-- what a head, or none, brings -/
noncomputable def br (M0 : pm_M) (A : Nat → Int) (p h : Nat) : Int := am M0 1 A p (h : Int) - am M0 0 A p (h : Int)
def bRow (M0 : pm_M) (A : Nat → Int) (H p : Nat) (M : pm_M) : Prop := (∀ h, h < H → M 110 (13 * p + h) = br M0 A p h) ∧ M 110 (13 * p + 12) = am M0 3 A p (-1)
theorem q_b14 (hA : WF A) (hX : TXS M0 (A 2)) (hH : A 1 = H) (hP : A 0 = P) {p : Nat} (hp : p < P) : ∀ (t nn h : Nat) (M : pm_M), h + t = H → t < nn → M 88 = A → KA M0 M → (∀ h', h' < h → M 110 (13 * p + h') = br M0 A p h') → ok (f_Q_laysBest_L14 nn p h M) (fun z => z.1 = p ∧ (∀ h', h' < H → z.2 110 (13 * p + h') = br M0 A p h') ∧ (∀ i, i < 13 * p ∨ 13 * p + 12 ≤ i → z.2 110 i = M 110 i) ∧ fr [108, 109, 110] M z.2) := by
  have w0 := hA.1
  have w1 := hA.2.1
  intro t
  induction t with
  | zero =>
    intro nn h M hh hnn hM hK hb
    cases nn with
    | zero => omega
    | succ nn =>
      unfold f_Q_laysBest_L14
      exact ok_pos (by rw [hM]; omega) (ok_some ⟨rfl, fun h' x => hb h' (by omega), fun _ _ => rfl, fr_rf _ _⟩)
  | succ t ih =>
    intro nn h M hh hnn hM hK hb
    cases nn with
    | zero => omega
    | succ nn =>
      have hok : ∀ L : Nat, L < 3 → hOK A L (h : Int) := fun L hL => Or.inr ⟨by omega, by omega, by omega⟩
      have b1 := am_b' (M0 := M0) (L := 1) (h := (h : Int)) (by omega) hA hX (p := p) (by omega) (hok 1 (by omega))
      have b0 := am_b' (M0 := M0) (L := 0) (h := (h : Int)) (by omega) hA hX (p := p) (by omega) (hok 0 (by omega))
      unfold f_Q_laysBest_L14
      refine ok_neg (by rw [hM]; omega) (ok_bind (q_am' (L := 1) (p := p) (by omega) hA hX hM hK (by omega) (hok 1 (by omega))) (fun y hy => ?_))
      refine ok_bind (q_am' (L := 0) (p := p) (M := y.2) (by omega) hA hX (by rw [hy.2 88 (by decide)]; exact hM) (KA_fr hy.2 (by decide) hK) (by omega) (hok 0 (by omega))) (fun z hz => ?_)
      rw [hy.1, hz.1, i_sb_eq (by omega), i_ml_eq (by omega), i_ad_eq (by omega), i_ad_eq (a := (h : Int)) (by omega), show (13 * (p : Int) + (h : Int)).toNat = 13 * p + h by omega]
      refine ok_pos (by omega) (ok_bd ?_)
      have f1 : fr [108, 109] M z.2 := fr_2 hy.2 hz.2
      have f2 : fr [108, 109, 110] M (pm_ms z.2 110 (13 * p + h) (am M0 1 A p (h : Int) - am M0 0 A p (h : Int))) := fr_tr f1 (S2 := [110]) (fr_ms (by decide)) (by decide) (by decide)
      refine ok_mono (ih nn (h + 1) _ (by omega) (by omega) (by rw [f2 88 (by decide)]; exact hM) (KA_fr f2 (by decide) hK) (fun h' x => ?_)) ?_
      · rw [msc, aSn]
        by_cases e : h' = h
        · rw [if_pos (by omega), e]; rfl
        · rw [if_neg (by omega), f1 110 (by decide)]; exact hb h' (by omega)
      · rintro w ⟨a, b, c, d⟩
        exact ⟨a, b, fun i hi => by rw [c i hi, msc, aSn, if_neg (by omega), f1 110 (by decide)], fr_2 f2 d⟩
theorem q_b2 (hA : WF A) (hX : TXS M0 (A 2)) (hH : A 1 = H) (hP : A 0 = P) : ∀ (t nn p : Nat) (M : pm_M), p + t = P → t < nn → M 88 = A → KA M0 M → (∀ p', p' < p → bRow M0 A H p' M) → ok (f_Q_laysBest_L2 nn p M) (fun M' => (∀ p', p' < P → bRow M0 A H p' M') ∧ fr [108, 109, 110] M M') := by
  have w0 := hA.1
  have w1 := hA.2.1
  intro t
  induction t with
  | zero =>
    intro nn p M hp hnn hM hK hb
    cases nn with
    | zero => omega
    | succ nn =>
      unfold f_Q_laysBest_L2
      exact ok_pos (by rw [hM]; omega) (ok_some ⟨fun p' x => hb p' (by omega), fr_rf _ _⟩)
  | succ t ih =>
    intro nn p M hp hnn hM hK hb
    cases nn with
    | zero => omega
    | succ nn =>
      unfold f_Q_laysBest_L2
      have h14 := q_b14 hA hX hH hP (p := p) (by omega) H pm_F 0 M (by omega) (by unfold pm_F; omega) hM hK (fun h' x => by omega)
      rw [show ((0 : Nat) : Int) = 0 from rfl] at h14
      refine ok_neg (by rw [hM]; omega) (ok_bind h14 ?_)
      rintro ⟨y, M1⟩ ⟨z1, z2, z3, z4⟩
      dsimp only at z1 z2 z3 z4 ⊢
      rw [z1]
      refine ok_bind (q_am' (L := 3) (p := p) (M := M1) (by omega) hA hX (by rw [z4 88 (by decide)]; exact hM) (KA_fr z4 (by decide) hK) (by omega) (Or.inl ⟨rfl, rfl⟩)) (fun w hw => ?_)
      rw [hw.1, i_ml_eq (by omega), i_ad_eq (by omega), i_ad_eq (a := (p : Int)) (by omega), show (13 * (p : Int) + 12).toNat = 13 * p + 12 by omega]
      refine ok_pos (by omega) (ok_bd ?_)
      have f2 : fr [108, 109, 110] M (pm_ms w.2 110 (13 * p + 12) (am M0 3 A p (-1))) := fr_tr (fr_tr z4 hw.2 (S := [108, 109, 110]) (by decide) (by decide)) (S2 := [110]) (fr_ms (by decide)) (by decide) (by decide)
      refine ok_mono (ih nn (p + 1) _ (by omega) (by omega) (by rw [f2 88 (by decide)]; exact hM) (KA_fr f2 (by decide) hK) (fun p' x => ?_)) (fun M' h' => ⟨h'.1, fr_2 f2 h'.2⟩)
      have e : ∀ i, (pm_ms w.2 110 (13 * p + 12) (am M0 3 A p (-1))) 110 i = if i = 13 * p + 12 then am M0 3 A p (-1) else M1 110 i := fun i => by rw [msc, aSn, hw.2 110 (by decide)]
      by_cases ep : p' = p
      · subst ep
        exact ⟨fun h hh => by rw [e, if_neg (by omega)]; exact z2 h hh, by rw [e, if_pos rfl]⟩
      · obtain ⟨c1, c2⟩ := hb p' (by omega)
        exact ⟨fun h hh => by rw [e, if_neg (by omega), z3 _ (by omega)]; exact c1 h hh, by rw [e, if_neg (by omega), z3 _ (by omega)]; exact c2⟩
theorem p2_le (h12 : H ≤ 12) : 2 ^ H ≤ 4096 := Nat.le_trans (Nat.pow_le_pow_right (by omega) h12) (by decide)
theorem q_b85 (hA : WF A) (hH : A 1 = H) (hP : A 0 = P) : ∀ (t nn s : Nat) (M : pm_M), s + t = 2 ^ H → t < nn → M 88 = A → (∀ s', s' < s → M 111 (4096 * P + s') = 0) → ok (f_Q_laysBest_L85 nn s M) (fun M' => (∀ s', s' < 2 ^ H → M' 111 (4096 * P + s') = 0) ∧ fr [111] M M') := by
  have w0 := hA.1
  have w1 := hA.2.1
  have hp2 := p2_le (H := H) (by omega)
  intro t
  induction t with
  | zero =>
    intro nn s M hs hnn hM h
    cases nn with
    | zero => omega
    | succ nn =>
      unfold f_Q_laysBest_L85
      rw [hM, hH, i_sl_n H (by omega)]
      exact ok_pos (by omega) (ok_some ⟨fun s' x => h s' (by omega), fr_rf _ _⟩)
  | succ t ih =>
    intro nn s M hs hnn hM h
    cases nn with
    | zero => omega
    | succ nn =>
      unfold f_Q_laysBest_L85
      rw [hM, hH, i_sl_n H (by omega), hP, i_ml_eq (by omega), i_ad_eq (a := 4096 * (P : Int)) (by omega), i_ad_eq (a := (s : Int)) (by omega), show (4096 * (P : Int) + (s : Int)).toNat = 4096 * P + s by omega]
      have f1 : fr [111] M (pm_ms M 111 (4096 * P + s) 0) := fr_ms (by decide)
      refine ok_neg (by omega) (ok_pos (by omega) (ok_bd (ok_mono (ih nn (s + 1) _ (by omega) (by omega) (by rw [f1 88 (by decide)]; exact hM) (fun s' x => ?_)) (fun M' h' => ⟨h'.1, fr_2 f1 h'.2⟩))))
      rw [msc, aSn]
      by_cases e : s' = s
      · rw [if_pos (by omega)]
      · rw [if_neg (by omega)]; exact h s' (by omega)
/-- one number of the table, of what lies behind it -/
def isM (M0 : pm_M) (A : Nat → Int) (H p s : Nat) (D1 : Nat → Int) (h : Nat) (v : Int) : Prop := am M0 3 A p (-1) + D1 s ≤ v ∧ (∀ h', h' < h → s.testBit h' = false → br M0 A p h' + D1 (s ||| 2 ^ h') ≤ v) ∧ (v = am M0 3 A p (-1) + D1 s ∨ ∃ h', h' < h ∧ s.testBit h' = false ∧ v = br M0 A p h' + D1 (s ||| 2 ^ h'))
theorem q_b179 (hA : WF A) (hX : TXS M0 (A 2)) (hH : A 1 = H) (hP : A 0 = P) {M : pm_M} (hM : M 88 = A) {p s : Nat} (hp : p < P) (hs : s < 2 ^ H) (hb : bRow M0 A H p M) (hD : ∀ s', s' < 2 ^ H → -8000 ≤ M 111 (4096 * (p + 1) + s') ∧ M 111 (4096 * (p + 1) + s') ≤ 8000) : ∀ (t nn h : Nat) (v : Int), h + t = H → t < nn → isM M0 A H p s (fun s' => M 111 (4096 * (p + 1) + s')) h v → ∃ v', f_Q_laysBest_L179 M nn p s v h = some ((p : Int), (s : Int), v') ∧ isM M0 A H p s (fun s' => M 111 (4096 * (p + 1) + s')) H v' := by
  have w0 := hA.1
  have w1 := hA.2.1
  have hp2 := p2_le (H := H) (by omega)
  intro t
  induction t with
  | zero =>
    intro nn h v hh hnn hv
    cases nn with
    | zero => omega
    | succ nn =>
      unfold f_Q_laysBest_L179
      rw [hM, if_pos (by omega)]
      rw [show h = H by omega] at hv
      exact ⟨v, rfl, hv⟩
  | succ t ih =>
    intro nn h v hh hnn hv
    cases nn with
    | zero => omega
    | succ nn =>
      obtain ⟨v1, v2, v3⟩ := hv
      unfold f_Q_laysBest_L179
      rw [hM, if_neg (by omega), sr_an (by omega) (by omega), i_ad_eq (a := (h : Int)) (by omega), show (h : Int) + 1 = ((h + 1 : Nat) : Int) by omega]
      cases htb : s.testBit h
      · rw [if_pos (by decide), or_sl (by omega) (by omega)]
        have hor := or_lt (H := H) hs (show h < H by omega)
        have hd := hD _ hor
        have b1 := am_b' (M0 := M0) (L := 1) (h := (h : Int)) (by omega) hA hX (p := p) (by omega) (Or.inr ⟨by omega, by omega, by omega⟩)
        have b0 := am_b' (M0 := M0) (L := 0) (h := (h : Int)) (by omega) hA hX (p := p) (by omega) (Or.inr ⟨by omega, by omega, by omega⟩)
        have hbr : br M0 A p h = am M0 1 A p (h : Int) - am M0 0 A p (h : Int) := rfl
        rw [i_ml_eq (a := 13) (by omega), i_ad_eq (a := 13 * (p : Int)) (by omega), i_ad_eq (a := (p : Int)) (b := 1) (by omega), i_ml_eq (a := 4096) (by omega), i_ad_eq (a := 4096 * ((p : Int) + 1)) (by omega), if_pos (by omega), if_pos (by omega), show (13 * (p : Int) + (h : Int)).toNat = 13 * p + h by omega, show (4096 * ((p : Int) + 1) + ((s ||| 2 ^ h : Nat) : Int)).toNat = 4096 * (p + 1) + (s ||| 2 ^ h) by omega, hb.1 h (by omega), i_ad_eq (a := br M0 A p h) (by omega)]
        dsimp only [pm_bd]
        by_cases g : br M0 A p h + M 111 (4096 * (p + 1) + (s ||| 2 ^ h)) ≤ v
        · rw [if_pos g]
          refine ih nn (h + 1) v (by omega) (by omega) ⟨v1, fun h' x y => ?_, ?_⟩
          · by_cases e : h' = h
            · rw [e]; exact g
            · exact v2 h' (by omega) y
          · rcases v3 with e | ⟨h', x, y, z⟩
            · exact Or.inl e
            · exact Or.inr ⟨h', by omega, y, z⟩
        · rw [if_neg g]
          refine ih nn (h + 1) _ (by omega) (by omega) ⟨by omega, fun h' x y => ?_, Or.inr ⟨h, by omega, htb, rfl⟩⟩
          by_cases e : h' = h
          · rw [e]; exact Int.le_refl _
          · have := v2 h' (by omega) y; omega
      · rw [if_neg (by decide)]
        refine ih nn (h + 1) v (by omega) (by omega) ⟨v1, fun h' x y => ?_, ?_⟩
        · by_cases e : h' = h
          · rw [e, htb] at y; cases y
          · exact v2 h' (by omega) y
        · rcases v3 with e | ⟨h', x, y, z⟩
          · exact Or.inl e
          · exact Or.inr ⟨h', by omega, y, z⟩
theorem isM_b (hA : WF A) (hX : TXS M0 (A 2)) (hH : A 1 = H) (hP : A 0 = P) {p s : Nat} {D1 : Nat → Int} {v B : Int} (hp : p < P) (hs : s < 2 ^ H) (hD : ∀ s', s' < 2 ^ H → -B ≤ D1 s' ∧ D1 s' ≤ B) (h : isM M0 A H p s D1 H v) : -(B + 999) ≤ v ∧ v ≤ B + 999 := by
  obtain ⟨v1, v2, v3⟩ := h
  have b3 := am_b' (M0 := M0) (L := 3) (h := -1) (by omega) hA hX (p := p) (by omega) (Or.inl ⟨rfl, rfl⟩)
  have d := hD s hs
  refine ⟨by omega, ?_⟩
  rcases v3 with e | ⟨h', x, y, z⟩
  · omega
  · have b1 := am_b' (M0 := M0) (L := 1) (h := (h' : Int)) (by omega) hA hX (p := p) (by omega) (Or.inr ⟨by omega, by omega, by omega⟩)
    have b0 := am_b' (M0 := M0) (L := 0) (h := (h' : Int)) (by omega) hA hX (p := p) (by omega) (Or.inr ⟨by omega, by omega, by omega⟩)
    have d2 := hD _ (or_lt hs x)
    unfold br at z
    omega
def tRow (M0 : pm_M) (A : Nat → Int) (P H p : Nat) (M : pm_M) : Prop := ∀ s, s < 2 ^ H → isM M0 A H p s (fun s' => M 111 (4096 * (p + 1) + s')) H (M 111 (4096 * p + s))
theorem q_b136 (hA : WF A) (hX : TXS M0 (A 2)) (hH : A 1 = H) (hP : A 0 = P) {p : Nat} (hp : p < P) {B : Int} (hB : 0 ≤ B ∧ B ≤ 7000) : ∀ (t nn s : Nat) (M : pm_M), s + t = 2 ^ H → t < nn → M 88 = A → bRow M0 A H p M → (∀ s', s' < 2 ^ H → -B ≤ M 111 (4096 * (p + 1) + s') ∧ M 111 (4096 * (p + 1) + s') ≤ B) → (∀ s', s' < s → isM M0 A H p s' (fun s'' => M 111 (4096 * (p + 1) + s'')) H (M 111 (4096 * p + s'))) → ok (f_Q_laysBest_L136 nn p s M) (fun z => z.1 = p ∧ tRow M0 A P H p z.2 ∧ (∀ i, i < 4096 * p ∨ 4096 * p + 4096 ≤ i → z.2 111 i = M 111 i) ∧ fr [111] M z.2) := by
  have w0 := hA.1
  have w1 := hA.2.1
  have hp2 := p2_le (H := H) (by omega)
  intro t
  induction t with
  | zero =>
    intro nn s M hs hnn hM hb hD h
    cases nn with
    | zero => omega
    | succ nn =>
      unfold f_Q_laysBest_L136
      rw [hM, hH, i_sl_n H (by omega)]
      refine ok_pos (by omega) (ok_some ⟨rfl, fun s' x => h s' (by omega), fun _ _ => rfl, fr_rf _ _⟩)
  | succ t ih =>
    intro nn s M hs hnn hM hb hD h
    cases nn with
    | zero => omega
    | succ nn =>
      have b3 := am_b' (M0 := M0) (L := 3) (h := -1) (by omega) hA hX (p := p) (by omega) (Or.inl ⟨rfl, rfl⟩)
      have ds := hD s (by omega)
      obtain ⟨v', e1, e2⟩ := q_b179 hA hX hH hP hM hp (show s < 2 ^ H by omega) hb (fun s' x => by have := hD s' x; omega) H pm_F 0 (am M0 3 A p (-1) + M 111 (4096 * (p + 1) + s)) (by omega) (by unfold pm_F; omega) ⟨Int.le_refl _, fun h' x => by omega, Or.inl rfl⟩
      rw [show ((0 : Nat) : Int) = 0 from rfl] at e1
      unfold f_Q_laysBest_L136
      rw [hM, hH, i_sl_n H (by omega), i_ml_eq (a := 13) (by omega), i_ad_eq (a := 13 * (p : Int)) (by omega), i_ad_eq (a := (p : Int)) (b := 1) (by omega), i_ml_eq (a := 4096) (b := (p : Int) + 1) (by omega), i_ad_eq (a := 4096 * ((p : Int) + 1)) (by omega), show (13 * (p : Int) + 12).toNat = 13 * p + 12 by omega, show (4096 * ((p : Int) + 1) + (s : Int)).toNat = 4096 * (p + 1) + s by omega, hb.2, i_ad_eq (a := am M0 3 A p (-1)) (by omega)]
      refine ok_neg (by omega) (ok_pos (by omega) (ok_pos (by omega) (ok_bd (ok_be e1 ?_))))
      dsimp only
      rw [i_ml_eq (a := 4096) (by omega), i_ad_eq (a := 4096 * (p : Int)) (by omega), i_ad_eq (a := (s : Int)) (by omega), show (4096 * (p : Int) + (s : Int)).toNat = 4096 * p + s by omega]
      refine ok_pos (by omega) (ok_bd ?_)
      have f1 : fr [111] M (pm_ms M 111 (4096 * p + s) v') := fr_ms (by decide)
      have e : ∀ i, (pm_ms M 111 (4096 * p + s) v') 111 i = if i = 4096 * p + s then v' else M 111 i := fun i => by rw [msc, aSn]
      have eD : ∀ s', s' < 2 ^ H → (pm_ms M 111 (4096 * p + s) v') 111 (4096 * (p + 1) + s') = M 111 (4096 * (p + 1) + s') := fun s' x => by rw [e, if_neg (by omega)]
      have conv : ∀ s' v, s' < 2 ^ H → isM M0 A H p s' (fun s'' => M 111 (4096 * (p + 1) + s'')) H v → isM M0 A H p s' (fun s'' => (pm_ms M 111 (4096 * p + s) v') 111 (4096 * (p + 1) + s'')) H v := by
        intro s' v hs' hv
        obtain ⟨c1, c2, c3⟩ := hv
        refine ⟨by show _ + (pm_ms M 111 (4096 * p + s) v') 111 (4096 * (p + 1) + s') ≤ v; rw [eD s' hs']; exact c1, fun h' x y => ?_, ?_⟩
        · show _ + (pm_ms M 111 (4096 * p + s) v') 111 (4096 * (p + 1) + (s' ||| 2 ^ h')) ≤ v
          rw [eD _ (or_lt hs' x)]; exact c2 h' x y
        · rcases c3 with c | ⟨h', x, y, z⟩
          · exact Or.inl (by show v = _ + (pm_ms M 111 (4096 * p + s) v') 111 (4096 * (p + 1) + s'); rw [eD s' hs']; exact c)
          · exact Or.inr ⟨h', x, y, by show v = _ + (pm_ms M 111 (4096 * p + s) v') 111 (4096 * (p + 1) + (s' ||| 2 ^ h')); rw [eD _ (or_lt hs' x)]; exact z⟩
      refine ok_mono (ih nn (s + 1) _ (by omega) (by omega) (by rw [f1 88 (by decide)]; exact hM) ⟨fun h x => by rw [f1 110 (by decide)]; exact hb.1 h x, by rw [f1 110 (by decide)]; exact hb.2⟩ (fun s' x => by rw [eD s' x]; exact hD s' x) (fun s' x => ?_)) ?_
      · rw [e]
        by_cases es : s' = s
        · rw [if_pos (by omega), es]; exact conv s v' (by omega) e2
        · rw [if_neg (by omega)]; exact conv s' _ (by omega) (h s' (by omega))
      · rintro z ⟨a, b, c, d⟩
        exact ⟨a, b, fun i hi => by rw [c i hi, e, if_neg (by omega)], fr_2 f1 d⟩
theorem q_b130 (hA : WF A) (hX : TXS M0 (A 2)) (hH : A 1 = H) (hP : A 0 = P) : ∀ (t nn : Nat) (M : pm_M), t ≤ P → t < nn → M 88 = A → (∀ p, p < P → bRow M0 A H p M) → (∀ s', s' < 2 ^ H → M 111 (4096 * P + s') = 0) → (∀ p, t ≤ p → p ≤ P → ∀ s', s' < 2 ^ H → -(999 * ((P : Int) - p)) ≤ M 111 (4096 * p + s') ∧ M 111 (4096 * p + s') ≤ 999 * ((P : Int) - p)) → (∀ p, t ≤ p → p < P → tRow M0 A P H p M) → ok (f_Q_laysBest_L130 nn ((t : Int) - 1) M) (fun M' => (∀ p, p < P → bRow M0 A H p M') ∧ DPS M0 A P H (fun p s => M' 111 (4096 * p + s)) ∧ (∀ p, p ≤ P → ∀ s', s' < 2 ^ H → -8000 ≤ M' 111 (4096 * p + s') ∧ M' 111 (4096 * p + s') ≤ 8000) ∧ fr [111] M M') := by
  have w0 := hA.1
  have w1 := hA.2.1
  have hp2 := p2_le (H := H) (by omega)
  intro t
  induction t with
  | zero =>
    intro nn M ht hnn hM hb h0 hbd hT
    cases nn with
    | zero => omega
    | succ nn =>
      unfold f_Q_laysBest_L130
      refine ok_pos (by omega) (ok_some ⟨hb, ⟨h0, fun p hp s hs => hT p (by omega) hp s hs⟩, fun p hp s' x => by have := hbd p (by omega) hp s' x; omega, fr_rf _ _⟩)
  | succ t ih =>
    intro nn M ht hnn hM hb h0 hbd hT
    cases nn with
    | zero => omega
    | succ nn =>
      unfold f_Q_laysBest_L130
      rw [show ((t + 1 : Nat) : Int) - 1 = (t : Int) by omega]
      have h136 := q_b136 (B := 999 * ((P : Int) - (t + 1 : Nat))) hA hX hH hP (p := t) (by omega) (by omega) (2 ^ H) pm_F 0 M (by omega) (by unfold pm_F; omega) hM (hb t (by omega)) (fun s' x => hbd (t + 1) (by omega) (by omega) s' x) (fun s' x => by omega)
      rw [show ((0 : Nat) : Int) = 0 from rfl] at h136
      refine ok_neg (by omega) (ok_bind h136 ?_)
      rintro ⟨y, M1⟩ ⟨z1, z2, z3, z4⟩
      dsimp only at z1 z2 z3 z4 ⊢
      rw [z1, i_ad_eq (by omega), show (t : Int) + -1 = (t : Int) - 1 by omega]
      have keep : ∀ p, t + 1 ≤ p → p ≤ P → ∀ s', s' < 2 ^ H → M1 111 (4096 * p + s') = M 111 (4096 * p + s') := fun p a b s' x => z3 _ (by omega)
      refine ok_mono (ih nn M1 (by omega) (by omega) (by rw [z4 88 (by decide)]; exact hM) (fun p x => ⟨fun h y => by rw [z4 110 (by decide)]; exact (hb p x).1 h y, by rw [z4 110 (by decide)]; exact (hb p x).2⟩) (fun s' x => by rw [keep P (by omega) (by omega) s' x]; exact h0 s' x) (fun p a b s' x => ?_) (fun p a b => ?_)) (fun M' h' => ⟨h'.1, h'.2.1, h'.2.2.1, fr_2 z4 h'.2.2.2⟩)
      · by_cases e : p = t
        · subst e
          have := isM_b hA hX hH hP (by omega) x (B := 999 * ((P : Int) - (p + 1 : Nat))) (fun s'' y => by rw [keep (p + 1) (by omega) (by omega) s'' y]; exact hbd (p + 1) (by omega) (by omega) s'' y) (z2 s' x)
          omega
        · rw [keep p (by omega) b s' x]; exact hbd p (by omega) b s' x
      · by_cases e : p = t
        · rw [e]; exact z2
        · intro s hs
          obtain ⟨c1, c2, c3⟩ := hT p (by omega) b s hs
          rw [keep p (by omega) (by omega) s hs]
          refine ⟨by show _ + M1 111 (4096 * (p + 1) + s) ≤ _; rw [keep (p + 1) (by omega) (by omega) s hs]; exact c1, fun h' x y => ?_, ?_⟩
          · show _ + M1 111 (4096 * (p + 1) + (s ||| 2 ^ h')) ≤ _
            rw [keep (p + 1) (by omega) (by omega) _ (or_lt hs x)]; exact c2 h' x y
          · rcases c3 with c | ⟨h', x, y, z⟩
            · exact Or.inl (by show _ = _ + M1 111 (4096 * (p + 1) + s); rw [keep (p + 1) (by omega) (by omega) s hs]; exact c)
            · exact Or.inr ⟨h', x, y, by show _ = _ + M1 111 (4096 * (p + 1) + (s ||| 2 ^ h')); rw [keep (p + 1) (by omega) (by omega) _ (or_lt hs x)]; exact z⟩
theorem q_laysB (hA : WF A) (hX : TXS M0 (A 2)) (hH : A 1 = H) (hP : A 0 = P) {M : pm_M} (hM : M 88 = A) (hK : KA M0 M) : ok (f_Q_laysBest M) (fun M' => (∀ p, p < P → bRow M0 A H p M') ∧ DPS M0 A P H (fun p s => M' 111 (4096 * p + s)) ∧ (∀ p, p ≤ P → ∀ s', s' < 2 ^ H → -8000 ≤ M' 111 (4096 * p + s') ∧ M' 111 (4096 * p + s') ≤ 8000) ∧ fr [108, 109, 110, 111] M M') := by
  have w0 := hA.1
  have w1 := hA.2.1
  have hp2 := p2_le (H := H) (by omega)
  unfold f_Q_laysBest
  have h2 := q_b2 hA hX hH hP P pm_F 0 M (by omega) (by unfold pm_F; omega) hM hK (fun p' x => by omega)
  rw [show ((0 : Nat) : Int) = 0 from rfl] at h2
  refine ok_bind h2 (fun M1 k1 => ?_)
  have e1 : M1 88 = A := by rw [k1.2 88 (by decide)]; exact hM
  have h85 := q_b85 hA hH hP (2 ^ H) pm_F 0 M1 (by omega) (by unfold pm_F; omega) e1 (fun s' x => by omega)
  rw [show ((0 : Nat) : Int) = 0 from rfl] at h85
  refine ok_bind h85 (fun M2 k2 => ?_)
  have e2 : M2 88 = A := by rw [k2.2 88 (by decide)]; exact e1
  rw [e2, hP, i_sb_eq (by omega)]
  refine ok_bind (q_b130 hA hX hH hP P pm_F M2 (Nat.le_refl _) (by unfold pm_F; omega) e2 (fun p x => ⟨fun h y => by rw [k2.2 110 (by decide)]; exact (k1.1 p x).1 h y, by rw [k2.2 110 (by decide)]; exact (k1.1 p x).2⟩) k2.1 (fun p a b s' x => by rw [show p = P by omega, k2.1 s' x]; omega) (fun p a b => by omega)) (fun M3 k3 => ok_some ⟨k3.1, k3.2.1, k3.2.2.1, fr_tr (fr_tr k1.2 k2.2 (S := [108, 109, 110, 111]) (by decide) (by decide)) k3.2.2.2 (by decide) (by decide)⟩)
end
