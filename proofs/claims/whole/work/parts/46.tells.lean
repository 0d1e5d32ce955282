/-! WHAT A LAW TELLS: the reference, and both together -/
section
variable {A : Nat → Int} {M : pm_M} {L p h : Int}
theorem q_clL (hA : WJ A) (hM : M 88 = A) {p : Nat} (hp : (p : Int) < A 0) : ∀ (k n q : Nat), q + k = (A 0).toNat → k < n → f_Q_closeTo_L4 M n p (a_cl A p q) q = some (a_cl A p (A 0).toNat) := by
  have w0 := hA.1
  intro k
  induction k with
  | zero =>
    intro n q hq hn
    cases n with
    | zero => omega
    | succ n =>
      unfold f_Q_closeTo_L4
      rw [hM, if_pos (by omega), show q = (A 0).toNat by omega]
  | succ k ih =>
    intro n q hq hn
    cases n with
    | zero => omega
    | succ n =>
      have hb := a_cl_b A p q
      have := ih n (q + 1) (by omega) (by omega)
      unfold f_Q_closeTo_L4
      rw [i_ad_eq (a := (q : Int)) (by omega), i_ad_eq (b := 0) (by omega), i_ad_eq (a := a_cl A p q) (b := 1) (by omega)]
      rw [show ((q + 1 : Nat) : Int) = (q : Int) + 1 by omega, a_cl] at this
      rw [hM, if_neg (by omega)]
      by_cases e : (q : Int) = p
      · rw [if_pos e]
        rw [if_neg (by omega)] at this
        exact this
      · rw [if_neg e, q_mi hA.xy hM (by omega) (by omega), ob]
        by_cases e2 : 10 < a_mi A p q
        · rw [if_pos e2]
          rw [if_neg (by omega)] at this
          exact this
        · rw [if_neg e2]
          rw [if_pos (by omega)] at this
          exact this
theorem q_close (hA : WJ A) (hM : M 88 = A) {p : Nat} (hp : (p : Int) < A 0) : f_Q_closeTo p M = some (a_cl A p (A 0).toNat) := by
  have w0 := hA.1
  unfold f_Q_closeTo
  have := q_clL hA hM hp (A 0).toNat pm_F 0 (by omega) (by unfold pm_F; omega)
  rw [show a_cl A p 0 = 0 from rfl, show ((0 : Nat) : Int) = 0 from rfl] at this
  rw [this, ob]
theorem q_names (hA : WJ A) (hM : M 88 = A) (hp : 0 ≤ p ∧ p < A 0) (hh : hOK A L h) : ok (f_Q_names p h M) (fun M' => (∀ n, n ≤ 9 → (L = 3 → n ≤ 4) → M' 108 n = nmf A p h n) ∧ fr [108] M M') := by
  have w0 := hA.1
  have w1 := hA.2.1
  obtain ⟨p', ep⟩ : ∃ p' : Nat, p = p' := ⟨p.toNat, by omega⟩
  subst ep
  have e88 : ∀ (X : pm_M) (i : Nat) (v : Int), pm_ms X 108 i v 88 = X 88 := fun X i v => pm_ms_ne (by omega)
  unfold f_Q_names
  refine ok_bd ?_
  rw [i_ml_eq (a := 4) (by omega), i_ad_eq (a := 10) (by omega), i_ad_eq (b := 2) (by omega), i_ad_eq (b := 3) (by omega), show ((10 : Int) + 4 * (p' : Int) + 2).toNat = 12 + 4 * p' by omega, show ((10 : Int) + 4 * (p' : Int) + 3).toNat = 13 + 4 * p' by omega]
  refine ok_pos (by omega) (ok_bd (ok_pos (by omega) (ok_bd (ok_bd ?_))))
  simp only [e88, hM]
  refine ok_be (q_close hA (by simp only [e88, hM]) hp.2) (ok_bd ?_)
  rcases hh with ⟨hL, rfl⟩ | ⟨hL, hh⟩
  · refine ok_pos rfl (ok_some ⟨fun n h9 h3 => ?_, ?_⟩)
    · have := h3 hL
      simp only [msc, aSn, nmf, tn_nat]
      rcases (show n = 0 ∨ n = 1 ∨ n = 2 ∨ n = 3 ∨ n = 4 by omega) with rfl | rfl | rfl | rfl | rfl <;> simp
    · intro c hc
      have hc' : c ≠ 108 := fun z => hc (by rw [z]; decide)
      simp only [msn, if_neg hc']
  · refine ok_neg (by omega) (ok_bd ?_)
    rw [i_ml_eq (a := 2) (by omega), i_ad_eq (a := 42) (by omega), i_ad_eq (a := 78) (by omega), i_ad_eq (a := 86) (by omega), show ((42 : Int) + 2 * h).toNat = 42 + 2 * h.toNat by omega, show ((78 : Int) + (p' : Int)).toNat = 78 + p' by omega, show ((86 : Int) + h).toNat = 86 + h.toNat by omega]
    refine ok_pos (by omega) (ok_bd (ok_pos (by omega) (ok_bd (ok_pos (by omega) ?_))))
    simp only [e88, hM]
    refine ok_ite (fun hc => ?_) (fun hc => ?_)
    all_goals
      refine ok_bd (ok_pos (by omega) (ok_bd (ok_some ⟨fun n h9 h3 => ?_, ?_⟩)))
      · simp only [msc, aSn, nmf, tn_nat]
        rcases (show n = 0 ∨ n = 1 ∨ n = 2 ∨ n = 3 ∨ n = 4 ∨ n = 5 ∨ n = 6 ∨ n = 7 ∨ n = 8 ∨ n = 9 by omega) with rfl | rfl | rfl | rfl | rfl | rfl | rfl | rfl | rfl | rfl <;> simp [hc, e88, hM]
      · intro c hc
        have hc' : c ≠ 108 := fun z => hc (by rw [z]; decide)
        simp only [msn, if_neg hc']
theorem tr_n408 {c : Int × Int} {s s' : List Bool} (h : tr L c s s') : c.1 ≠ 408 := by
  rcases h.2 with h | h | h | h | h | h | h
  · omega
  · omega
  · omega
  · omega
  · exact (isA_n h.1).2.2.2.2
  · exact (isC_n h.1).2.2.2.2
  · exact (isB_n h.1).2.2.2.2
theorem q_saysL (nm : Nat → Int) (hnm : nmW L nm) : ∀ (l : List (Int × Int)) (s s' : List Bool) (vs : List Int) (n k : Nat) (M : pm_M), (∀ n, n ≤ 9 → (L = 3 → n ≤ 4) → M 108 n = nm n) → trs L l s s' → vt s vs → s.length ≤ 40 → stk (M 109) vs → cdQ (M 96) (M 97) k l → k + l.length < 1600 → l.length < n →
    ok (f_Q_saysOf_L4 n (vs.length : Int) k M) (fun M' => stk (M' 109) (evl nm l vs) ∧ fr [109] M M') := by
  intro l
  induction l with
  | nil =>
    intro s s' vs n k M hN ht' hv hs hk hx h3 hn
    cases n with
    | zero => omega
    | succ n =>
      rw [List.length_nil] at h3
      unfold f_Q_saysOf_L4
      refine ok_pos (by omega) (ok_pos ?_ (ok_some ⟨hk, fr_rf _ _⟩))
      rw [tn_nat]; exact hx
  | cons q l ih =>
    intro s s' vs n k M hN ht' hv hs hk hx h3 hn
    cases n with
    | zero => simp at hn
    | succ n =>
      obtain ⟨m, hm1, hm2⟩ := ht'
      rw [List.length_cons] at h3 hn
      have hlen := vt_len s vs hv
      have hv' := ev1_vt hnm hm1 hv
      have h408 := tr_n408 hm1
      obtain ⟨hx1, hx2, hx3⟩ := hx
      unfold f_Q_saysOf_L4
      rw [tn_nat, hx1, hx2]
      refine ok_pos (by omega) (ok_neg h408 (ok_pos (by omega) ?_))
      have step : ∀ (j : Nat) (x : Int) (y : Int), x :: (ev1 nm q vs).tail = ev1 nm q vs → j = (ev1 nm q vs).tail.length → y = (j : Int) + 1 → stk (M 109) (ev1 nm q vs).tail → ok (f_Q_saysOf_L4 n y (i_ad (k : Int) 1) (pm_ms M 109 j x)) (fun M' => stk (M' 109) (evl nm (q :: l) vs) ∧ fr [109] M M') := by
        intro j x y hx2 hj hy hs2
        have hmlen : m.length ≤ 40 := hm1.1
        have e1 : (ev1 nm q vs).length = j + 1 := by rw [← hx2, List.length_cons, hj]
        have fr1 : fr [109] M (pm_ms M 109 j x) := fr_ms (by decide)
        have := ih m s' (ev1 nm q vs) n (k + 1) (pm_ms M 109 j x) (by
            rw [fr1 108 (by decide)]; exact hN) hm2 hv' hmlen (by
            rw [msc, ← hx2, hj]; exact stk_push hs2) (by
            rw [fr1 96 (by decide), fr1 97 (by decide)]; exact hx3) (by omega) (by omega)
        rw [i_ad_eq (by omega), hy]
        rw [e1] at this
        exact ok_mono this (fun M' h => ⟨h.1, fr_2 fr1 h.2⟩)
      rcases tr_cases hm1 hv with ⟨h1, h21, rfl⟩ | ⟨h1, h21, h31, h41, rfl⟩ | ⟨v, r, t, rfl, htt, hb, h5⟩ | ⟨a, b, r, t, rfl, htt, ha, hb, h5⟩
      · refine ok_pos h1 (ok_pos h1 (ok_pos (by omega) (ok_pos (by omega) (ok_bd ?_))))
        rw [ev1_400 h1] at step
        rw [i_ad_eq (a := (vs.length : Int)) (by omega), tn_nat]
        exact step vs.length q.2 _ rfl rfl rfl hk
      · refine ok_neg (by omega) (ok_pos h1 (ok_neg (by omega) (ok_pos (by omega) (ok_pos (by omega) (ok_pos (by omega) (ok_bd ?_))))))
        rw [ev1_401 h1] at step
        rw [i_ad_eq (a := (vs.length : Int)) (by omega), tn_nat, hN q.2.toNat (by omega) (fun z => by have := h31 z; omega)]
        exact step vs.length _ _ rfl rfl rfl hk
      · rw [List.length_cons] at hlen
        have hr := vt_len t r htt
        rw [List.length_cons, i_sb_eq (a := ((r.length + 1 : Nat) : Int)) (by omega), show ((r.length + 1 : Nat) : Int) - 1 = (r.length : Int) by omega]
        simp only [tn_nat]
        have k1 : M 109 r.length = v := hk.1
        rcases h5 with ⟨h1, rfl, rfl⟩ | ⟨h1, rfl, rfl, h01⟩
        · refine ok_neg (by omega) (ok_neg (by omega) (ok_pos h1 (ok_pos (by omega) (ok_pos (by omega) (ok_bd ?_)))))
          rw [ev1_402 h1] at step
          rw [k1, l_ng_eq (by omega)]
          exact step r.length _ _ rfl rfl (by omega) hk.2
        · refine ok_neg (by omega) (ok_neg (by omega) (ok_neg (by omega) (ok_pos h1 (ok_pos (by omega) (ok_pos (by omega) (ok_bd ?_))))))
          rw [ev1_405 h1] at step
          rw [k1, l_sb_eq (by omega)]
          exact step r.length _ _ rfl rfl (by omega) hk.2
      · rw [List.length_cons, List.length_cons] at hlen
        have hr := vt_len t r htt
        obtain ⟨o, v⟩ := q
        have hk3 : (isA o ∨ isC o ∨ (isB o ∧ (a = 0 ∨ a = 1) ∧ (b = 0 ∨ b = 1))) ∧ (o ≠ 400 ∧ o ≠ 401 ∧ o ≠ 402 ∧ o ≠ 405) := by
          rcases h5 with ⟨h1, _⟩ | ⟨h1, _⟩ | ⟨h1, _, _, h6⟩
          · have := isA_n h1; exact ⟨Or.inl h1, this.1, this.2.1, this.2.2.1, this.2.2.2.1⟩
          · have := isC_n h1; exact ⟨Or.inr (Or.inl h1), this.1, this.2.1, this.2.2.1, this.2.2.2.1⟩
          · have := isB_n h1; exact ⟨Or.inr (Or.inr ⟨h1, h6⟩), this.1, this.2.1, this.2.2.1, this.2.2.2.1⟩
        rw [List.length_cons, List.length_cons, i_ad_eq (a := ((r.length + 1 + 1 : Nat) : Int)) (b := -1) (by omega), i_sb_eq (a := ((r.length + 1 + 1 : Nat) : Int) + -1) (b := 1) (by omega), show ((r.length + 1 + 1 : Nat) : Int) + -1 - 1 = (r.length : Int) by omega, show ((r.length + 1 + 1 : Nat) : Int) + -1 = ((r.length + 1 : Nat) : Int) by omega]
        simp only [tn_nat]
        have k1 : M 109 (r.length + 1) = b := hk.1
        have k2 : M 109 r.length = a := hk.2.1
        rw [k1, k2]
        refine ok_neg hk3.2.1 (ok_neg hk3.2.2.1 (ok_neg hk3.2.2.2.1 (ok_neg hk3.2.2.2.2 (ok_pos (by omega) (ok_pos (by omega) (ok_be (q_worked hk3.1 ha hb) (ok_pos (by omega) (ok_bd ?_))))))))
        rw [ev1_2 hk3.2] at step
        exact step r.length (op2 o a b) _ rfl rfl (by omega) hk.2.2
-- the pictures of the texts
def TXl (M : pm_M) (t L : Nat) : Prop :=
  (M (40 + 6 * t + 1 + 3) L = -1 ∧ ∀ c : Nat, (c : Int) < M 91 t → M 92 (24 * t + c) ≠ (L : Int)) ∨
  ∃ (c f g : Nat) (l : List (Int × Int)), (c : Int) < M 91 t ∧ M (40 + 6 * t + 1 + 3) L = (c : Int) ∧ (∀ c' : Nat, (c' : Int) < M 91 t → (M 92 (24 * t + c') = (L : Int) ↔ c' = c)) ∧ M (40 + 6 * t + 1 + 1) c = (f : Int) ∧ M (40 + 6 * t + 1 + 2) c = ((f + l.length : Nat) : Int) ∧ f + l.length ≤ 300 ∧ M 93 (24 * t + c) = (g : Int) ∧ 400 * t ≤ g ∧ g + l.length < 400 * t + 400 ∧ cdX (M (40 + 6 * t + 1 + 4)) f l ∧ cdQ (M 96) (M 97) g l ∧ trs (L : Int) l [] [decide (L = 4)]
def TXt (M : pm_M) (t : Nat) : Prop := (0 ≤ M 91 t ∧ M 91 t ≤ 24) ∧ M (40 + 6 * t) 5 = M 91 t ∧
  (∀ c : Nat, (c : Int) < M 91 t → M (40 + 6 * t + 1 + 0) c = M 92 (24 * t + c) ∧ (0 ≤ M 92 (24 * t + c) ∧ M 92 (24 * t + c) ≤ 8) ∧ (5 ≤ M 92 (24 * t + c) → M (40 + 6 * t + 1 + 1) c = M 94 (24 * t + c) ∧ M (40 + 6 * t + 1 + 2) c = M 95 (24 * t + c))) ∧
  ∀ L, L < 5 → TXl M t L
def TXS (M : pm_M) (n : Int) : Prop := ∀ t : Nat, (t : Int) < n → TXt M t
theorem q_ordL {t : Nat} (ht : t < 4) (hM : M 88 3 = t) {N : Nat} (hN : M 91 t = N) (hN2 : N ≤ 24) (L : Int) (R : Nat → Int) (hR : ∀ c, c < N → R (c + 1) = if M 92 (24 * t + c) = L then M 93 (24 * t + c) else R c) : ∀ (k n q : Nat), q + k = N → k < n → f_Q_ordersOf_L4 M n L (R q) q = some (R N) := by
  intro k
  induction k with
  | zero =>
    intro n q hq hn
    cases n with
    | zero => omega
    | succ n =>
      unfold f_Q_ordersOf_L4
      rw [hM, if_neg (by omega), if_pos (by omega), tn_nat, hN, if_pos (by omega), show q = N by omega]
  | succ k ih =>
    intro n q hq hn
    cases n with
    | zero => omega
    | succ n =>
      have := ih n (q + 1) (by omega) (by omega)
      rw [hR q (by omega), show ((q + 1 : Nat) : Int) = (q : Int) + 1 by omega] at this
      unfold f_Q_ordersOf_L4
      rw [hM, if_neg (by omega), if_pos (by omega), tn_nat, hN, if_neg (by omega), i_ml_eq (by omega), i_ad_eq (a := 24 * (t : Int)) (by omega), i_ad_eq (a := (q : Int)) (by omega)]
      dsimp only [pm_bd]
      rw [if_pos (by omega), show (24 * (t : Int) + (q : Int)).toNat = 24 * t + q by omega]
      by_cases e : M 92 (24 * t + q) = L
      · rw [if_pos e, if_pos (by omega)]; rw [if_pos e] at this; exact this
      · rw [if_neg e]; rw [if_neg e] at this; exact this
theorem q_ord0 (hM : M 88 3 = -1) (L : Int) : f_Q_ordersOf L M = some (-1) := by
  unfold f_Q_ordersOf pm_F
  unfold f_Q_ordersOf_L4
  rw [hM, if_pos rfl, ob]
theorem q_ordN {t L : Nat} (ht : t < 4) (hM : M 88 3 = t) (hb : 0 ≤ M 91 t ∧ M 91 t ≤ 24) (h : ∀ c : Nat, (c : Int) < M 91 t → M 92 (24 * t + c) ≠ (L : Int)) : f_Q_ordersOf L M = some (-1) := by
  unfold f_Q_ordersOf
  obtain ⟨N, eN⟩ : ∃ N : Nat, M 91 t = N := ⟨(M 91 t).toNat, by omega⟩
  have := q_ordL ht hM eN (by omega) L (fun _ => -1) (fun c hc => by rw [if_neg (h c (by omega))]) N pm_F 0 (by omega) (by unfold pm_F; omega)
  rw [show ((0 : Nat) : Int) = 0 from rfl] at this
  rw [this, ob]
theorem q_ordY {t L c g : Nat} (ht : t < 4) (hM : M 88 3 = t) (hb : 0 ≤ M 91 t ∧ M 91 t ≤ 24) (hc : (c : Int) < M 91 t) (h : ∀ c' : Nat, (c' : Int) < M 91 t → (M 92 (24 * t + c') = (L : Int) ↔ c' = c)) (hg : M 93 (24 * t + c) = (g : Int)) : f_Q_ordersOf L M = some (g : Int) := by
  unfold f_Q_ordersOf
  obtain ⟨N, eN⟩ : ∃ N : Nat, M 91 t = N := ⟨(M 91 t).toNat, by omega⟩
  have := q_ordL ht hM eN (by omega) L (fun q => if c < q then (g : Int) else -1) (fun c' hc' => by
    have hi := h c' (by omega)
    by_cases e : c' = c
    · rw [if_pos (hi.mpr e), if_pos (by omega), e, hg]
    · rw [if_neg (fun z => e (hi.mp z))]
      by_cases e2 : c < c'
      · rw [if_pos (by omega), if_pos e2]
      · rw [if_neg (by omega), if_neg e2]) N pm_F 0 (by omega) (by unfold pm_F; omega)
  rw [show ((0 : Nat) : Int) = 0 from rfl, if_neg (by omega), if_pos (by omega)] at this
  rw [this, ob]
/-- what the law L tells of p and h is v, on both sides -/
def PV (M : pm_M) (L : Nat) (A : Nat → Int) (p h v : Int) : Prop := (0 ≤ v ∧ v ≤ 999) ∧ (L = 4 → v = 0 ∨ v = 1) ∧ ∀ M1 : pm_M, (∀ c ∈ KL, M1 c = M c) →
  (CX 24 36 1 A M1 → ok (f_Judge_amount L p h M1) (fun y => y.1 = v ∧ fr [65] M1 y.2)) ∧
  (M1 88 = A → (L ≠ 4 → ok (f_Q_tellsOf L p h M1) (fun y => y.1 = v ∧ fr [108, 109] M1 y.2)) ∧ (L = 4 → A (70 + p.toNat) = h → ok (f_Q_falls p M1) (fun y => y.1 = v ∧ fr [108, 109] M1 y.2)))
theorem KL_tx {t : Nat} (ht : t < 4) : (40 + 6 * t) ∈ KL ∧ (40 + 6 * t + 1 + 0) ∈ KL ∧ (40 + 6 * t + 1 + 1) ∈ KL ∧ (40 + 6 * t + 1 + 2) ∈ KL ∧ (40 + 6 * t + 1 + 3) ∈ KL ∧ (40 + 6 * t + 1 + 4) ∈ KL := by
  rcases (show t = 0 ∨ t = 1 ∨ t = 2 ∨ t = 3 by omega) with rfl | rfl | rfl | rfl <;> decide
theorem x_amount0 (hC : CX 24 36 1 A M) (L : Nat) (p h : Int) (hn : A 3 = -1 ∨ (0 ≤ A 3 ∧ A 3 < A 2 ∧ A 2 ≤ 4 ∧ L < 5 ∧ M (40 + 6 * (A 3).toNat + 1 + 3) L = -1)) : f_Judge_amount L p h M = some (if L = 0 then 1 else 0, M) := by
  have e3 := hC.1.1.2.2.2.2
  have e2 := hC.1.1.2.2.2.1
  have eL : (if (L : Int) = 0 then some ((1 : Int), M) else some (0, M)) = some (if L = 0 then 1 else 0, M) := by
    by_cases e : L = 0
    · rw [if_pos e, if_pos (by omega)]
    · rw [if_neg e, if_neg (by omega)]
  unfold f_Judge_amount f_Told_ruling
  rw [e3, ob, x_isTx e2, ob]
  rcases hn with h1 | ⟨h1, h2, h3, h4, h5⟩
  · rw [pb_0 (by omega), if_pos rfl, eL]
  · rw [pb_1 (by omega), if_neg (by omega), if_pos (by omega)]
    unfold f_Text_clauseOf pm_tx
    rw [if_neg (by omega), if_neg (by omega), if_pos (by omega), tn_nat, h5, ob, if_pos rfl, eL]
theorem d_ite {L : Nat} {α : Type} (a b : α) : (if (L : Int) = 0 then a else b) = if L = 0 then a else b := by
  by_cases e : L = 0
  · rw [if_pos e, if_pos (by omega)]
  · rw [if_neg e, if_neg (by omega)]
theorem clm {v : Int} : (if 0 ≤ v then if v ≤ 999 then v else 999 else 0) = if v < 0 then 0 else if 999 < v then 999 else v := by
  split <;> split <;> (try split) <;> omega
def clv (v : Int) : Int := if v < 0 then 0 else if 999 < v then 999 else v
/-- both sides tell the same, by what the names are alone -/
theorem PV_ex {L : Nat} (hL : L < 5) {n r : Int} (hX : TXS M n) (w2 : 0 ≤ n ∧ n ≤ 4) (w3 : -1 ≤ r ∧ r < n) : ∃ F : (Nat → Int) → Int, ∀ (A : Nat → Int) (p h : Int), WJ A → A 2 = n → A 3 = r → (0 ≤ p ∧ p < A 0) → hOK A L h → PV M L A p h (F (nmf A p h)) := by
  have hnone : ∀ (_ : r = -1 ∨ (∃ t : Nat, r = (t : Int) ∧ M (40 + 6 * t + 1 + 3) L = -1 ∧ ∀ c : Nat, (c : Int) < M 91 t → M 92 (24 * t + c) ≠ (L : Int))), ∀ (A : Nat → Int) (p h : Int), WJ A → A 2 = n → A 3 = r → (0 ≤ p ∧ p < A 0) → hOK A L h → PV M L A p h (if L = 0 then 1 else 0) := by
    intro hn A p h hA e2 e3 hp hh
    refine ⟨by split <;> omega, fun z => by rw [if_neg (by omega)]; exact Or.inl rfl, fun M1 h1 => ⟨fun hC => ?_, fun hM => ?_⟩⟩
    · refine ok_eq (x_amount0 hC L p h ?_) ⟨rfl, fr_rf _ _⟩
      rcases hn with h | ⟨t, h, h2, _⟩
      · exact Or.inl (by omega)
      · refine Or.inr ⟨by omega, by omega, by omega, hL, ?_⟩
        rw [e3, h, tn_nat, h1 _ (KL_tx (by omega)).2.2.2.2.1]; exact h2
    · have hord : f_Q_ordersOf L M1 = some (-1) := by
        rcases hn with h | ⟨t, h, _, h2⟩
        · exact q_ord0 (by rw [hM]; omega) L
        · have hb := (hX t (by omega)).1
          refine q_ordN (t := t) (by omega) (by rw [hM]; omega) ?_ ?_
          · rw [h1 91 (by decide)]; exact hb
          · rw [h1 91 (by decide), h1 92 (by decide)]; exact h2
      refine ⟨fun _ => ?_, fun h4 _ => ?_⟩
      · unfold f_Q_tellsOf
        refine ok_be hord (ok_pos rfl ?_)
        rw [d_ite]
        split <;> exact ok_some ⟨rfl, fr_rf _ _⟩
      · subst h4
        unfold f_Q_falls
        exact ok_be hord (ok_pos rfl (ok_some ⟨rfl, fr_rf _ _⟩))
  by_cases h3 : r = -1
  · exact ⟨fun _ => if L = 0 then 1 else 0, hnone (Or.inl h3)⟩
  obtain ⟨t, et⟩ : ∃ t : Nat, r = t := ⟨r.toNat, by omega⟩
  have hT := hX t (by omega)
  have hkt := KL_tx (t := t) (by omega)
  rcases hT.2.2.2 L hL with ⟨h1, h2⟩ | ⟨c, f, g, l, k1, k2, k3, k4, k5, k6, k7, k8, k9, k10, k11, k12⟩
  · exact ⟨fun _ => if L = 0 then 1 else 0, hnone (Or.inr ⟨t, et, h1, h2⟩)⟩
  have hb := hT.1
  refine ⟨fun nm => clv ((evl nm l []).headD 0), ?_⟩
  intro A p h hA e2 e3 hp hh
  have et' : A 3 = t := by omega
  have hnW := nmf_W hA hp hh
  have hvt := evl_vt hnW l [] [decide (L = 4)] [] k12 trivial
  obtain ⟨v, ev⟩ : ∃ v, evl (nmf A p h) l [] = [v] := by
    revert hvt
    generalize evl (nmf A p h) l [] = w
    intro hw
    match w, hw with
    | [v], _ => exact ⟨v, rfl⟩
    | [], hw => exact hw.elim
    | _ :: _ :: _, hw => exact hw.2.2.elim
  rw [ev] at hvt
  have ecl : clv ((evl (nmf A p h) l []).headD 0) = if v < 0 then 0 else if 999 < v then 999 else v := by rw [ev]; rfl
  show PV M L A p h (clv ((evl (nmf A p h) l []).headD 0))
  rw [ecl]
  have hv1 : L = 4 → v = 0 ∨ v = 1 := fun z => hvt.1 (by simp [z])
  have hv2 := hvt.2.1
  refine ⟨by split <;> (try split) <;> omega, fun z => by have := hv1 z; rw [if_neg (by omega), if_neg (by omega)]; exact this, fun M1 h1 => ⟨fun hC => ?_, fun hM => ?_⟩⟩
  · have e3 := hC.1.1.2.2.2.2
    have e2 := hC.1.1.2.2.2.1
    unfold f_Judge_amount f_Told_ruling
    rw [e3, et']
    refine ok_be rfl (ok_pl (x_isTx e2 _) (fun _ => ok_neg (by omega) ?_) (fun z => absurd ⟨by omega, by omega⟩ z))
    refine ok_pos (by omega) ?_
    unfold f_Text_clauseOf pm_tx
    rw [tn_nat, if_neg (by omega), if_neg (by omega), if_pos (by omega), tn_nat, h1 _ hkt.2.2.2.2.1, k2]
    refine ok_be rfl (ok_neg (by omega) ?_)
    unfold f_Judge_reckon f_Text_first
    rw [if_pos (by omega), tn_nat, h1 _ hkt.2.2.1, k4]
    have hrk := x_reckL (L := L) (p := p) (h := h) hA (c := c) (t0 := 40 + 6 * t) (by omega) (by omega) hp hh l [] [decide (L = 4)] [] pm_F f M1 hC k12 trivial (by simp) trivial (by rw [h1 _ hkt.2.2.2.2.2]; exact k10) (by rw [h1 _ hkt.2.2.2.1, tn_nat]; exact k5) k6 (by unfold pm_F; omega)
    refine ok_bind (Q1 := fun y => y.1 = v ∧ fr [65] M1 y.2) ?_ ?_
    · refine ok_be rfl (ok_bind hrk ?_)
      rintro _ ⟨M', rfl, hs, hf⟩
      rw [ev] at hs
      rw [ev]
      have e1 : i_sb ((([v] : List Int).length : Nat) : Int) 1 = 0 := by rw [i_sb_eq (by simp)]; rfl
      dsimp only
      rw [e1]
      exact ok_neg (by simp) (ok_pos (by decide) (ok_some ⟨hs.1, hf⟩))
    · rintro ⟨y1, y2⟩ ⟨rfl, hf⟩
      dsimp only at hf ⊢
      refine ok_ite (fun a => ok_ite (fun b => ok_some ⟨?_, hf⟩) (fun b => ok_some ⟨?_, hf⟩)) (fun a => ok_some ⟨?_, hf⟩)
      · dsimp only; rw [if_neg (by omega), if_neg (by omega)]
      · dsimp only; rw [if_neg (by omega), if_pos (by omega)]
      · dsimp only; rw [if_pos (by omega)]
  · have hord : f_Q_ordersOf L M1 = some (g : Int) := by
      refine q_ordY (t := t) (c := c) (by omega) (by rw [hM]; exact et') ?_ ?_ ?_ ?_
      · rw [h1 91 (by decide)]; exact hb
      · rw [h1 91 (by decide)]; exact k1
      · rw [h1 91 (by decide), h1 92 (by decide)]; exact k3
      · rw [h1 93 (by decide)]; exact k7
    have hsay : ∀ M2 : pm_M, fr [108] M1 M2 → (∀ n, n ≤ 9 → ((L : Int) = 3 → n ≤ 4) → M2 108 n = nmf A p h n) → ok (f_Q_saysOf g M2) (fun y => y.1 = v ∧ fr [108, 109] M1 y.2) := by
      intro M2 hf2 hn2
      unfold f_Q_saysOf
      refine ok_bind (q_saysL (L := L) (nmf A p h) hnW l [] [decide (L = 4)] [] pm_F g M2 hn2 k12 trivial (by simp) trivial (by rw [hf2 96 (by decide), hf2 97 (by decide), h1 96 (by decide), h1 97 (by decide)]; exact k11) (by omega) (by unfold pm_F; omega)) (fun M3 h3 => ok_some ⟨?_, fr_tr hf2 h3.2 (by decide) (by decide)⟩)
      rw [ev] at h3
      exact h3.1.1
    refine ⟨fun _ => ?_, fun h4 h70 => ?_⟩
    · unfold f_Q_tellsOf
      refine ok_be hord (ok_neg (by omega) (ok_bind (q_names hA hM hp hh) (fun M2 h2 => ok_bind (hsay M2 h2.2 h2.1) ?_)))
      rintro ⟨y1, y2⟩ ⟨rfl, hf⟩
      dsimp only at hf ⊢
      refine ok_ite (fun a => ok_ite (fun b => ok_some ⟨?_, hf⟩) (fun b => ok_some ⟨?_, hf⟩)) (fun a => ok_some ⟨?_, hf⟩)
      · dsimp only; rw [l_2i_eq (by omega), if_neg (by omega), if_neg (by omega)]
      · dsimp only; rw [if_neg (by omega), if_pos (by omega)]
      · dsimp only; rw [if_pos (by omega)]
    · subst h4
      have hv4 := hv1 rfl
      have w0 := hA.1
      have hh' : 0 ≤ h := by rcases hh with ⟨z, _⟩ | ⟨_, z, _⟩ <;> omega
      unfold f_Q_falls
      refine ok_be hord (ok_neg (by omega) ?_)
      rw [i_ad_eq (by omega), tn70 hp.1, hM, h70]
      refine ok_pos (by omega) (ok_neg (by omega) (ok_pos (by omega) (ok_bind (q_names hA hM hp hh) (fun M2 h2 => ok_bind (hsay M2 h2.2 h2.1) ?_))))
      rintro ⟨y1, y2⟩ ⟨rfl, hf⟩
      dsimp only at hf ⊢
      refine ok_ite (fun a => ok_some ⟨?_, hf⟩) (fun a => ok_some ⟨?_, hf⟩)
      · dsimp only; rw [if_neg (by omega), if_neg (by omega)]; omega
      · dsimp only; rw [if_neg (by omega), if_neg (by omega)]; omega
noncomputable def amF (M : pm_M) (L : Nat) (n r : Int) : (Nat → Int) → Int := Classical.epsilon (fun F => ∀ (A : Nat → Int) (p h : Int), WJ A → A 2 = n → A 3 = r → (0 ≤ p ∧ p < A 0) → hOK A L h → PV M L A p h (F (nmf A p h)))
noncomputable def am (M : pm_M) (L : Nat) (A : Nat → Int) (p h : Int) : Int := amF M L (A 2) (A 3) (nmf A p h)
theorem am_PV {L : Nat} (hL : L < 5) (hA : WJ A) (hX : TXS M (A 2)) (hp : 0 ≤ p ∧ p < A 0) (hh : hOK A L h) : PV M L A p h (am M L A p h) := Classical.epsilon_spec (PV_ex hL hX hA.2.2.1 hA.2.2.2.1) A p h hA rfl rfl hp hh
theorem am_congr {A' : Nat → Int} {L : Nat} (h2 : A' 2 = A 2) (h3 : A' 3 = A 3) (hn : nmf A' p h = nmf A p h) : am M L A' p h = am M L A p h := by unfold am; rw [h2, h3, hn]
end
