/-! PASS, PLAYED, OF: both sides -/
section
variable {A A0 r : Nat → Int} {M M0 : pm_M}
noncomputable def psn (M0 : pm_M) (A0 : Nat → Int) : Nat → (Nat → Int) → Nat → Int
  | 0, r => r
  | k + 1, r => psn M0 A0 k (dA M0 A0 r)
theorem x_passL (hA : WF A0) (hX : TXS M0 (A0 2)) : ∀ (k n : Nat) (N y : Int) (r : Nat → Int) (M : pm_M), y + k = N → 0 ≤ y → N ≤ 99 → k < n → CX 24 36 1 (rU A0 r) M → rW (A0 0) (A0 1) r → r 29 + k ≤ 999 → KA M0 M → ok (f_X_pass_L41 n N y M) (fun M' => CX 24 36 1 (rU A0 (psn M0 A0 k r)) M' ∧ fr [36, 65] M M') := by
  intro k
  induction k with
  | zero =>
    intro n N y r M hN hy hN2 hn hC hr hd hK
    cases n with
    | zero => omega
    | succ n =>
      unfold f_X_pass_L41
      exact ok_pos (by omega) (ok_some ⟨hC, fr_rf _ _⟩)
  | succ k ih =>
    intro n N y r M hN hy hN2 hn hC hr hd hK
    cases n with
    | zero => omega
    | succ n =>
      unfold f_X_pass_L41
      have hq := q_day (M := fun c => if c = 88 then rU A0 r else M0 c) hA hX (by simp) hr (by omega) (fun c hc => by
        have : c ≠ 88 := fun z => by subst z; revert hc; decide
        simp [this])
      refine ok_neg (by omega) (ok_bind (x_day hA hX hC hr (by omega) hK) (fun M1 h1 => ?_))
      rw [i_ad_eq (by omega)]
      exact ok_mono (ih n N (y + 1) (dA M0 A0 r) M1 (by omega) (by omega) hN2 (by omega) h1.1 hq.2.1 (by rw [hq.2.2]; omega) (KA_fr h1.2 (by decide) hK)) (fun M' h' => ⟨h'.1, fr_2 h1.2 h'.2⟩)
theorem q_passL (hA : WF A0) (hX : TXS M0 (A0 2)) : ∀ (k n : Nat) (N y : Int) (r : Nat → Int) (M : pm_M), y + k = N → 0 ≤ y → N ≤ 99 → k < n → M 88 = rU A0 r → rW (A0 0) (A0 1) r → r 29 + k ≤ 999 → KA M0 M → ok (f_Q_pass_L33 n N y M) (fun M' => M' 88 = rU A0 (psn M0 A0 k r) ∧ fr [88, 108, 109] M M') ∧ rW (A0 0) (A0 1) (psn M0 A0 k r) ∧ psn M0 A0 k r 29 = r 29 + k := by
  intro k
  induction k with
  | zero =>
    intro n N y r M hN hy hN2 hn hC hr hd hK
    cases n with
    | zero => omega
    | succ n =>
      unfold f_Q_pass_L33
      exact ⟨ok_pos (by omega) (ok_some ⟨hC, fr_rf _ _⟩), hr, by show r 29 = _; omega⟩
  | succ k ih =>
    intro n N y r M hN hy hN2 hn hC hr hd hK
    cases n with
    | zero => omega
    | succ n =>
      have hq := q_day hA hX hC hr (by omega) hK
      obtain ⟨M1, e1, h1, hf1⟩ := hq.1
      have := ih n N (y + 1) (dA M0 A0 r) M1 (by omega) (by omega) hN2 (by omega) h1 hq.2.1 (by rw [hq.2.2]; omega) (KA_fr hf1 (by decide) hK)
      refine ⟨?_, this.2.1, by rw [psn, this.2.2, hq.2.2]; omega⟩
      unfold f_Q_pass_L33
      rw [i_ad_eq (by omega)]
      exact ok_neg (by omega) (ok_be e1 (ok_mono this.1 (fun M' h' => ⟨h'.1, fr_2 hf1 h'.2⟩)))
def c_ps (A : Nat → Int) (x : Int) : Prop := (1 ≤ x ∧ x ≤ 99) ∧ A 99 + x ≤ 999
noncomputable def a_ps (M0 : pm_M) (A : Nat → Int) (x : Int) : Nat → Int := rU (kS A) (psn M0 (kS A) x.toNat (a_row A))
theorem TXS_kS (hX : TXS M0 (A 2)) : TXS M0 (kS A 2) := by rw [kS_2]; exact hX
theorem x_pass (hA : WF A) (hX : TXS M0 (A 2)) (hC : CX 24 36 1 A M) (hK : KA M0 M) (x : Int) : ok (f_X_pass x M) (XP (c_ps A x) (-1) (A 99 + x) (a_ps M0 A x) [1, 2, 36, 65] M) := by
  have hrW := hA.2.2.2.2.2.2.2.2.2.1
  have h99 : 0 ≤ A 99 ∧ A 99 ≤ 999 := hrW.2.2.2.2.2.1
  unfold f_X_pass f_Moment_day
  refine ok_ite (fun h1 => ok_some (XP_no (fun z => by have := z.1; omega))) (fun h1 => ?_)
  refine ok_ite (fun h2 => ok_some (XP_no (fun z => by have := z.1; omega))) (fun h2 => ?_)
  have e99 : M 36 29 = A 99 := hC.2.1 29 (by omega)
  rw [e99]
  refine ok_be rfl ?_
  rw [i_ad_eq (by omega)]
  refine ok_ite (fun h3 => ?_) (fun h3 => ok_some (XP_no (fun z => h3 z.2)))
  have hK0 := WF_kS hA
  have hrk : rW (kS A 0) (kS A 1) (a_row A) := by rw [kS_0, kS_1]; exact hrW
  refine ok_bind (x_keep hA hC) (fun M1 k1 => ?_)
  have hC1 : CX 24 36 1 (rU (kS A) (a_row A)) M1 := by rw [kS_rU]; exact k1.1
  refine ok_bind (x_passL hK0 (TXS_kS hX) x.toNat pm_F x 0 (a_row A) M1 (by omega) (by omega) (by omega) (by unfold pm_F; omega) hC1 hrk (by show A 99 + _ ≤ _; omega) (KA_fr k1.2 (by decide) hK)) (fun M2 h2' => ?_)
  have hq := q_passL (M := fun c => if c = 88 then rU (kS A) (a_row A) else M0 c) hK0 (TXS_kS hX) x.toNat pm_F x 0 (a_row A) (by omega) (by omega) (by omega) (by unfold pm_F; omega) (by simp) hrk (by show A 99 + _ ≤ _; omega) (fun c hc => by
        have : c ≠ 88 := fun z => by subst z; revert hc; decide
        simp [this])
  refine ok_be rfl (ok_some (Or.inr ⟨⟨by omega, h3⟩, ?_, h2'.1, fr_tr k1.2 h2'.2 (by decide) (by decide)⟩))
  show M2 36 29 = _
  rw [x_rd h2'.1 (by omega), hq.2.2]
  show A 99 + _ = _
  omega
theorem q_pass (hA : WF A) (hX : TXS M0 (A 2)) (hM : M 88 = A) (hK : KA M0 M) (x : Int) : ok (f_Q_pass x M) (QP (c_ps A x) (-1) (A 99 + x) (a_ps M0 A x) [88, 108, 109] M) := by
  have hrW := hA.2.2.2.2.2.2.2.2.2.1
  have h99 : 0 ≤ A 99 ∧ A 99 ≤ 999 := hrW.2.2.2.2.2.1
  unfold f_Q_pass
  refine ok_dc (f_Q_in_eq x 1 99 M) (fun h1 => ok_neg (by omega) ?_) (fun h1 => ok_pos rfl (ok_some (QP_no (fun z => h1 z.1))))
  rw [hM, i_ad_eq (by omega)]
  refine ok_ite (fun h3 => ?_) (fun h3 => ok_some (QP_no (fun z => h3 z.2)))
  have hK0 := WF_kS hA
  have hrk : rW (kS A 0) (kS A 1) (a_row A) := by rw [kS_0, kS_1]; exact hrW
  refine ok_bind (q_keep hA.2.2.2.2.1 hM) (fun M1 k1 => ?_)
  have hq := q_passL hK0 (TXS_kS hX) x.toNat pm_F x 0 (a_row A) M1 (by omega) (by omega) (by omega) (by unfold pm_F; omega) (by rw [kS_rU]; exact k1.1) hrk (by show A 99 + _ ≤ _; omega) (KA_fr k1.2 (by decide) hK)
  refine ok_bind hq.1 (fun M2 h2 => ok_some (Or.inr ⟨⟨h1, h3⟩, ?_, h2.1, fr_tr k1.2 h2.2 (by decide) (by decide)⟩))
  have e2 : M2 88 99 = psn M0 (kS A) x.toNat (a_row A) 29 := by rw [h2.1]; exact rU_i (i := 29) (by omega)
  show M2 88 99 = _
  rw [e2, hq.2.2]
  show A 99 + _ = _
  omega
theorem w_pass (hA : WF A) (hX : TXS M0 (A 2)) {x : Int} (hc : c_ps A x) : WF (a_ps M0 A x) ∧ a_ps M0 A x 2 = A 2 := by
  have hrW := hA.2.2.2.2.2.2.2.2.2.1
  have h99 : 0 ≤ A 99 ∧ A 99 ≤ 999 := hrW.2.2.2.2.2.1
  obtain ⟨c1, c2⟩ := hc
  have hK0 := WF_kS hA
  have hrk : rW (kS A 0) (kS A 1) (a_row A) := by rw [kS_0, kS_1]; exact hrW
  have hq := q_passL (M := fun c => if c = 88 then rU (kS A) (a_row A) else M0 c) hK0 (TXS_kS hX) x.toNat pm_F x 0 (a_row A) (by omega) (by omega) (by omega) (by unfold pm_F; omega) (by simp) hrk (by show A 99 + _ ≤ _; omega) (fun c hc => by
        have : c ≠ 88 := fun z => by subst z; revert hc; decide
        simp [this])
  exact ⟨WF_rU hq.2.1 hK0, by unfold a_ps; rw [rU_o (by omega), kS_2]⟩
-- a deed of a text
/-- what a clause of the kind k with the numbers a and b does: can it be, and what is then -/
def c_dd (A : Nat → Int) (k a b : Int) : Prop := (k = 5 → a_cp A a b) ∧ (k = 6 → a_co A a) ∧ (k = 7 → a_cc A a b) ∧ (k = 8 → c_ps A a)
noncomputable def a_dd (M0 : pm_M) (A : Nat → Int) (k a b : Int) : Nat → Int :=
  if k = 5 then rU (kS A) (aS (a_row A) b.toNat a) else if k = 6 then rU (kS A) (aS (a_row A) a.toNat (-1)) else if k = 7 then rU (kS A) (r_sw (a_row A) a.toNat b.toNat) else if k = 8 then a_ps M0 A a else A
theorem w_dd (hA : WF A) (hX : TXS M0 (A 2)) {k a b : Int} (hc : c_dd A k a b) : WF (a_dd M0 A k a b) ∧ a_dd M0 A k a b 2 = A 2 := by
  unfold a_dd
  split
  · rename_i h; exact w_put hA (hc.1 h)
  · split
    · rename_i h; exact w_off hA (hc.2.1 h).1
    · split
      · rename_i h; exact w_change hA (hc.2.2.1 h)
      · split
        · rename_i h; exact w_pass hA hX (hc.2.2.2 h)
        · exact ⟨hA, rfl⟩
theorem st_playL {t : Nat} (ht : t < 4) {N : Nat} (hN : M0 91 t = N) (hT : TXt M0 t) : ∀ (k n n' y : Nat) (A : Nat → Int) (MX : pm_M), y + k = N → k < n → k < n' → WF A → TXS M0 (A 2) → CX 24 36 1 A MX → KA M0 MX →
    ok (f_X_played_L23 (40 + 6 * t) n y MX) (fun e => ∃ (A' : Nat → Int) (MX' : pm_M) (b : Bool) (i : Int), e = (if b then .inl (i, MX') else .inr MX') ∧ fr [1, 2, 36, 65] MX MX' ∧ WF A' ∧ A' 2 = A 2 ∧ CX 24 36 1 A' MX' ∧ ∀ MQ : pm_M, MQ 88 = A → KA M0 MQ → ok (f_Q_played_L21 n' t y MQ) (fun z => ∃ MQ', z = (if b then .inl (i, MQ') else .inr MQ') ∧ MQ' 88 = A' ∧ fr [88, 108, 109] MQ MQ')) := by
  intro k
  have hb := hT.1
  have hkt := KL_tx ht
  induction k with
  | zero =>
    intro n n' y A MX hy hn hn' hA hX hC hK
    cases n with
    | zero => omega
    | succ n =>
      cases n' with
      | zero => omega
      | succ n' =>
        unfold f_X_played_L23 f_Text_clauses
        rw [hK _ hkt.1, hT.2.1, hN]
        refine ok_be rfl (ok_pos (by omega) (ok_some ⟨A, MX, false, 0, rfl, fr_rf _ _, hA, rfl, hC, fun MQ h8 h7 => ?_⟩))
        unfold f_Q_played_L21
        rw [tn_nat, h7 91 (by decide), hN]
        exact ok_pos (by omega) (ok_pos (by omega) (ok_some ⟨MQ, rfl, h8, fr_rf _ _⟩))
  | succ k ih =>
    intro n n' y A MX hy hn hn' hA hX hC hK
    cases n with
    | zero => omega
    | succ n =>
      cases n' with
      | zero => omega
      | succ n' =>
        obtain ⟨t1, t2, t3⟩ := hT.2.2.1 y (by omega)
        unfold f_X_played_L23 f_Text_clauses f_Text_first f_Text_second f_Text_kind
        rw [hK _ hkt.1, hT.2.1, hN, tn_nat, hK _ hkt.2.1, hK _ hkt.2.2.1, hK _ hkt.2.2.2.1, t1, i_ad_eq (a := (y : Int)) (by omega), if_pos (by omega), if_pos (by omega), if_pos (by omega)]
        refine ok_be rfl (ok_neg (by omega) (ok_be rfl (ok_be rfl (ok_be rfl ?_))))
        -- the reference's clause
        have cl : (i_ad (i_ml 24 (t : Int)) (y : Int)) = ((24 * t + y : Nat) : Int) := by rw [i_ml_eq (by omega), i_ad_eq (by omega)]; omega
        have go : ∀ (A1 : Nat → Int) (MX1 : pm_M), WF A1 → A1 2 = A 2 → CX 24 36 1 A1 MX1 → fr [1, 2, 36, 65] MX MX1 → (∀ MQ : pm_M, MQ 88 = A → KA M0 MQ → ∃ MQ1, f_Q_played_L21 (n' + 1) t y MQ = f_Q_played_L21 n' t ((y + 1 : Nat) : Int) MQ1 ∧ MQ1 88 = A1 ∧ fr [88, 108, 109] MQ MQ1) →
            ok (f_X_played_L23 (40 + 6 * t) n ((y : Int) + 1) MX1) (fun e => ∃ (A' : Nat → Int) (MX' : pm_M) (b : Bool) (i : Int), e = (if b then .inl (i, MX') else .inr MX') ∧ fr [1, 2, 36, 65] MX MX' ∧ WF A' ∧ A' 2 = A 2 ∧ CX 24 36 1 A' MX' ∧ ∀ MQ : pm_M, MQ 88 = A → KA M0 MQ → ok (f_Q_played_L21 (n' + 1) t y MQ) (fun z => ∃ MQ', z = (if b then .inl (i, MQ') else .inr MQ') ∧ MQ' 88 = A' ∧ fr [88, 108, 109] MQ MQ')) := by
          intro A1 MX1 hA1 h12 hC1 hf1 hQ
          refine ok_mono (ih n n' (y + 1) A1 MX1 (by omega) (by omega) (by omega) hA1 (by rw [h12]; exact hX) hC1 (KA_fr hf1 (by decide) hK)) ?_
          rintro e ⟨A', MX', b, i, he, hf, hA', h2', hC', hq⟩
          refine ⟨A', MX', b, i, he, fr_2 hf1 hf, hA', h2'.trans h12, hC', fun MQ h8 h7 => ?_⟩
          obtain ⟨MQ1, e1, g8, gf⟩ := hQ MQ h8 h7
          rw [e1]
          refine ok_mono (hq MQ1 g8 (KA_fr gf (by decide) h7)) ?_
          rintro z ⟨MQ', hz, hz8, hzf⟩
          exact ⟨MQ', hz, hz8, fr_2 gf hzf⟩
        have stop : ∀ MX1 : pm_M, MX1 = MX → (∀ MQ : pm_M, MQ 88 = A → KA M0 MQ → ok (f_Q_played_L21 (n' + 1) t y MQ) (fun z => ∃ MQ', z = .inl ((y : Int), MQ') ∧ MQ' 88 = A ∧ fr [88, 108, 109] MQ MQ')) →
            ok (some (Sum.inl ((y : Int), MX1))) (fun e => ∃ (A' : Nat → Int) (MX' : pm_M) (b : Bool) (i : Int), e = (if b then .inl (i, MX') else .inr MX') ∧ fr [1, 2, 36, 65] MX MX' ∧ WF A' ∧ A' 2 = A 2 ∧ CX 24 36 1 A' MX' ∧ ∀ MQ : pm_M, MQ 88 = A → KA M0 MQ → ok (f_Q_played_L21 (n' + 1) t y MQ) (fun z => ∃ MQ', z = (if b then .inl (i, MQ') else .inr MQ') ∧ MQ' 88 = A' ∧ fr [88, 108, 109] MQ MQ')) := by
          intro MX1 h1 hq
          rw [h1]
          exact ok_some ⟨A, MX, true, y, rfl, fr_rf _ _, hA, rfl, hC, hq⟩
        have a91 : ∀ MQ : pm_M, KA M0 MQ → MQ 91 t = N ∧ MQ 92 = M0 92 ∧ MQ 94 = M0 94 ∧ MQ 95 = M0 95 := fun MQ h => ⟨by rw [h 91 (by decide), hN], h 92 (by decide), h 94 (by decide), h 95 (by decide)⟩
        generalize hk : M0 92 (24 * t + y) = kd at t2 t3
        refine ok_ite (fun k5 => ?_) (fun k5 => ?_)
        · obtain ⟨u1, u2⟩ := t3 (by omega)
          rw [u1, u2]
          refine ok_bind (x_put hA hC _ _) (fun z hz => ?_)
          have pre : ∀ MQ : pm_M, MQ 88 = A → KA M0 MQ → f_Q_played_L21 (n' + 1) t y MQ = (f_Q_put (M0 94 (24 * t + y)) (M0 95 (24 * t + y)) MQ).bind fun r => if r.1 = 0 then some (.inl ((y : Int), r.2)) else f_Q_played_L21 n' t ((y + 1 : Nat) : Int) r.2 := by
            intro MQ h8 h7
            obtain ⟨b1, b2, b3, b4⟩ := a91 MQ h7
            rw [f_Q_played_L21, cl, tn_nat, tn_nat, b1, b2, b3, b4, hk, if_pos (by omega), if_neg (by omega), if_pos (by omega), if_pos k5, if_pos (by omega), if_pos (by omega), i_ad_eq (a := (y : Int)) (by omega)]
            rfl
          rcases hz with ⟨n1, n2, n3⟩ | ⟨n1, n2, n3, n4⟩
          · refine ok_pos n2 (stop _ n3 (fun MQ h8 h7 => ?_))
            rw [pre MQ h8 h7]
            refine ok_bind (q_put hA h8 _ _) (fun w hw => ?_)
            rcases hw with ⟨_, w2, w3⟩ | ⟨w1, _⟩
            · exact ok_pos w2 (ok_some ⟨w.2, rfl, by rw [w3]; exact h8, by rw [w3]; exact fr_rf _ _⟩)
            · exact absurd w1 n1
          · refine ok_neg (by omega) (go _ _ (w_put hA n1).1 (w_put hA n1).2 n3 (fr_mo n4 (by decide)) (fun MQ h8 h7 => ?_))
            obtain ⟨w, ew, hw⟩ := q_put hA h8 (M0 94 (24 * t + y)) (M0 95 (24 * t + y))
            rcases hw with ⟨w1, _⟩ | ⟨_, w2, w3, w4⟩
            · exact absurd n1 w1
            · exact ⟨w.2, by rw [pre MQ h8 h7, ew, ob, if_neg (by omega)], w3, fr_mo w4 (by decide)⟩
        refine ok_ite (fun k6 => ?_) (fun k6 => ?_)
        · obtain ⟨u1, u2⟩ := t3 (by omega)
          rw [u1]
          refine ok_bind (x_off hA hC _) (fun z hz => ?_)
          have pre : ∀ MQ : pm_M, MQ 88 = A → KA M0 MQ → f_Q_played_L21 (n' + 1) t y MQ = (f_Q_off (M0 94 (24 * t + y)) MQ).bind fun r => if r.1 = -1 then some (.inl ((y : Int), r.2)) else f_Q_played_L21 n' t ((y + 1 : Nat) : Int) r.2 := by
            intro MQ h8 h7
            obtain ⟨b1, b2, b3, b4⟩ := a91 MQ h7
            rw [f_Q_played_L21, cl, tn_nat, tn_nat, b1, b2, b3, b4, hk, if_pos (by omega), if_neg (by omega), if_pos (by omega), if_neg k5, if_pos k6, if_pos (by omega), i_ad_eq (a := (y : Int)) (by omega)]
            rfl
          rcases hz with ⟨n1, n2, n3⟩ | ⟨n1, n2, n3, n4⟩
          · refine ok_pos n2 (stop _ n3 (fun MQ h8 h7 => ?_))
            rw [pre MQ h8 h7]
            refine ok_bind (q_off hA h8 _) (fun w hw => ?_)
            rcases hw with ⟨_, w2, w3⟩ | ⟨w1, _⟩
            · exact ok_pos w2 (ok_some ⟨w.2, rfl, by rw [w3]; exact h8, by rw [w3]; exact fr_rf _ _⟩)
            · exact absurd w1 n1
          · refine ok_neg (by rw [n2]; exact n1.2) (go _ _ (w_off hA n1.1).1 (w_off hA n1.1).2 n3 (fr_mo n4 (by decide)) (fun MQ h8 h7 => ?_))
            obtain ⟨w, ew, hw⟩ := q_off hA h8 (M0 94 (24 * t + y))
            rcases hw with ⟨w1, _⟩ | ⟨_, w2, w3, w4⟩
            · exact absurd n1 w1
            · exact ⟨w.2, by rw [pre MQ h8 h7, ew, ob, if_neg (by rw [w2]; exact n1.2)], w3, fr_mo w4 (by decide)⟩
        refine ok_ite (fun k7 => ?_) (fun k7 => ?_)
        · obtain ⟨u1, u2⟩ := t3 (by omega)
          rw [u1, u2]
          refine ok_bind (x_change hA hC _ _) (fun z hz => ?_)
          have pre : ∀ MQ : pm_M, MQ 88 = A → KA M0 MQ → f_Q_played_L21 (n' + 1) t y MQ = (f_Q_change (M0 94 (24 * t + y)) (M0 95 (24 * t + y)) MQ).bind fun r => if r.1 = 0 then some (.inl ((y : Int), r.2)) else f_Q_played_L21 n' t ((y + 1 : Nat) : Int) r.2 := by
            intro MQ h8 h7
            obtain ⟨b1, b2, b3, b4⟩ := a91 MQ h7
            rw [f_Q_played_L21, cl, tn_nat, tn_nat, b1, b2, b3, b4, hk, if_pos (by omega), if_neg (by omega), if_pos (by omega), if_neg k5, if_neg k6, if_pos k7, if_pos (by omega), if_pos (by omega), i_ad_eq (a := (y : Int)) (by omega)]
            rfl
          rcases hz with ⟨n1, n2, n3⟩ | ⟨n1, n2, n3, n4⟩
          · refine ok_pos n2 (stop _ n3 (fun MQ h8 h7 => ?_))
            rw [pre MQ h8 h7]
            refine ok_bind (q_change hA h8 _ _) (fun w hw => ?_)
            rcases hw with ⟨_, w2, w3⟩ | ⟨w1, _⟩
            · exact ok_pos w2 (ok_some ⟨w.2, rfl, by rw [w3]; exact h8, by rw [w3]; exact fr_rf _ _⟩)
            · exact absurd w1 n1
          · refine ok_neg (by omega) (go _ _ (w_change hA n1).1 (w_change hA n1).2 n3 (fr_mo n4 (by decide)) (fun MQ h8 h7 => ?_))
            obtain ⟨w, ew, hw⟩ := q_change hA h8 (M0 94 (24 * t + y)) (M0 95 (24 * t + y))
            rcases hw with ⟨w1, _⟩ | ⟨_, w2, w3, w4⟩
            · exact absurd n1 w1
            · exact ⟨w.2, by rw [pre MQ h8 h7, ew, ob, if_neg (by omega)], w3, fr_mo w4 (by decide)⟩
        refine ok_ite (fun k8 => ?_) (fun k8 => ?_)
        · obtain ⟨u1, u2⟩ := t3 (by omega)
          rw [u1]
          have h99 : 0 ≤ A 99 := (hA.2.2.2.2.2.2.2.2.2.1.2.2.2.2.2.1).1
          refine ok_bind (x_pass hA hX hC hK _) (fun z hz => ?_)
          have pre : ∀ MQ : pm_M, MQ 88 = A → KA M0 MQ → f_Q_played_L21 (n' + 1) t y MQ = (f_Q_pass (M0 94 (24 * t + y)) MQ).bind fun r => if r.1 = -1 then some (.inl ((y : Int), r.2)) else f_Q_played_L21 n' t ((y + 1 : Nat) : Int) r.2 := by
            intro MQ h8 h7
            obtain ⟨b1, b2, b3, b4⟩ := a91 MQ h7
            rw [f_Q_played_L21, cl, tn_nat, tn_nat, b1, b2, b3, b4, hk, if_pos (by omega), if_neg (by omega), if_pos (by omega), if_neg k5, if_neg k6, if_neg k7, if_pos k8, if_pos (by omega), i_ad_eq (a := (y : Int)) (by omega)]
            rfl
          rcases hz with ⟨n1, n2, n3⟩ | ⟨n1, n2, n3, n4⟩
          · refine ok_pos n2 (stop _ n3 (fun MQ h8 h7 => ?_))
            rw [pre MQ h8 h7]
            refine ok_bind (q_pass hA hX h8 h7 _) (fun w hw => ?_)
            rcases hw with ⟨_, w2, w3⟩ | ⟨w1, _⟩
            · exact ok_pos w2 (ok_some ⟨w.2, rfl, by rw [w3]; exact h8, by rw [w3]; exact fr_rf _ _⟩)
            · exact absurd w1 n1
          · have nn := n1.1
            refine ok_neg (by omega) (go _ _ (w_pass hA hX n1).1 (w_pass hA hX n1).2 n3 (fr_mo n4 (by decide)) (fun MQ h8 h7 => ?_))
            obtain ⟨w, ew, hw⟩ := q_pass hA hX h8 h7 (M0 94 (24 * t + y))
            rcases hw with ⟨w1, _⟩ | ⟨_, w2, w3, w4⟩
            · exact absurd n1 w1
            · exact ⟨w.2, by rw [pre MQ h8 h7, ew, ob, if_neg (by omega)], w3, fr_mo w4 (by decide)⟩
        · refine go A MX hA rfl hC (fr_rf _ _) (fun MQ h8 h7 => ⟨MQ, ?_, h8, fr_rf _ _⟩)
          obtain ⟨b1, b2, b3, b4⟩ := a91 MQ h7
          rw [f_Q_played_L21, cl, tn_nat, tn_nat, b1, b2, hk, if_pos (by omega), if_neg (by omega), if_pos (by omega), if_neg k5, if_neg k6, if_neg k7, if_neg k8, i_ad_eq (a := (y : Int)) (by omega)]
          rfl
end
section
variable {A A0 r : Nat → Int} {M M0 : pm_M}
/-- what stays and what is asked for, of a call that may change the state -/
abbrev EN (M : pm_M) (y z : Int × pm_M) : Prop := y.1 = z.1 ∧ St z.2 ∧ z.2 88 2 = M 88 2 ∧ Kp M z.2
theorem st_comb2 {c : Prop} {v0 v1 : Int} {A' : Nat → Int} {SX SQ : List Nat} {M : pm_M} {y : Int × pm_M} {fQ : pm_M → Option (Int × pm_M)} (hS : St M) (hX : XP c v0 v1 A' SX M y) (hQ : ∀ M1, M1 88 = M 88 → KA M M1 → ok (fQ M1) (QP c v0 v1 A' SQ M1)) (hW : c → WF A' ∧ A' 2 = M 88 2) (sx : SB SX ∧ 88 ∉ SX) (sq : SB SQ ∧ ∀ c ∈ SQ, 87 ≤ c) : ok (fQ y.2) (fun z => EN M y z) := by
  have hf : fr SX M y.2 := by
    rcases hX with ⟨_, _, h⟩ | ⟨_, _, _, h⟩
    · rw [h]; exact fr_rf _ _
    · exact h
  refine ok_mono (hQ y.2 (hf 88 sx.2) (fun c hc => hf c (sx.1 c (List.mem_cons_of_mem _ (List.mem_cons_of_mem _ hc))))) ?_
  intro z hz
  rcases hX with ⟨h1, h2, h3⟩ | ⟨h1, h2, h3, h4⟩
  · rcases hz with ⟨_, z2, z3⟩ | ⟨z1, _⟩
    · exact ⟨by rw [h2, z2], by rw [z3, h3]; exact hS, by rw [z3, h3], by rw [z3, h3]; exact Kp_rf _⟩
    · exact absurd z1 h1
  · rcases hz with ⟨z1, _⟩ | ⟨_, z2, z3, z4⟩
    · exact absurd h1 z1
    · refine ⟨by rw [h2, z2], ⟨by rw [z3]; exact (hW h1).1, ?_⟩, by rw [z3]; exact (hW h1).2, Kp_tr (Kp_fr h4 sx.1) (Kp_fr z4 sq.1)⟩
      rw [z3]
      exact CX_congr (fr_lo z4 sq.2) h3
theorem KA_rf (M : pm_M) : KA M M := fun _ _ => rfl
theorem st_pass (hS : St M) (hX : TXS M (M 88 2)) (x : Int) : ok (f_X_pass x M) (fun y => ok (f_Q_pass x y.2) (fun z => EN M y z)) :=
  ok_mono (x_pass hS.1 hX hS.2 (KA_rf M) x) (fun y hy => st_comb2 hS hy (fun M1 h1 h2 => q_pass hS.1 hX h1 h2 x) (fun h => w_pass hS.1 hX h) (by decide) (by decide))
theorem st_played (hS : St M) (hX : TXS M (M 88 2)) (x : Int) : ok (f_X_played x M) (fun y => ok (f_Q_played x y.2) (fun z => EN M y z)) := by
  obtain ⟨hA, hC⟩ := id hS
  have w2 := hA.2.2.1
  unfold f_X_played
  refine ok_pl (x_isTx hC.1.1.2.2.2.1 x) (fun h1 => ok_neg (by omega) ?_) (fun h1 => ok_pos rfl (ok_some ?_))
  · obtain ⟨t, et⟩ : ∃ t : Nat, x = t := ⟨x.toNat, by omega⟩
    subst et
    refine ok_pos (by omega) ?_
    have hT := hX t (by omega)
    have hb := hT.1
    obtain ⟨N, eN⟩ : ∃ N : Nat, M 91 t = N := ⟨(M 91 t).toNat, by omega⟩
    have hp := st_playL (M0 := M) (t := t) (by omega) eN hT N pm_F pm_F 0 (M 88) M (by omega) (by unfold pm_F; omega) (by unfold pm_F; omega) hA hX hC (KA_rf M)
    unfold pm_tx
    rw [tn_nat]
    refine ok_bind hp ?_
    rintro e ⟨A', MX', b, i, he, hf, hA', h2', hC', hq⟩
    have hq' := hq MX' (hf 88 (by decide)) (fun c hc => hf c (by revert hc; revert c; decide))
    have key : ok (f_Q_played t MX') (fun z => EN M (if b then (i, MX') else (-1, MX')) z) := by
      unfold f_Q_played
      rw [hf 88 (by decide)]
      refine ok_pl (q_in_pb _ _ _ (by omega)) (fun _ => ok_neg (by omega) ?_) (fun z => absurd h1 z)
      refine ok_bind hq' ?_
      rintro z ⟨MQ', hz, hz8, hzf⟩
      have res : ∀ v : Int, EN M (v, MX') (v, MQ') := fun v => by
        refine ⟨rfl, ⟨by show WF (MQ' 88); rw [hz8]; exact hA', ?_⟩, by show MQ' 88 2 = _; rw [hz8]; exact h2', Kp_tr (Kp_fr hf (by decide)) (Kp_fr hzf (by decide))⟩
        show CX 24 36 1 (MQ' 88) MQ'
        rw [hz8]
        exact CX_congr (fr_lo hzf (by decide)) hC'
      cases b with
      | true => rw [if_pos rfl] at hz ⊢; rw [hz]; exact ok_some (res i)
      | false => rw [if_neg (by decide)] at hz ⊢; rw [hz]; exact ok_some (res (-1))
    cases b with
    | true => rw [if_pos rfl] at he key; rw [he]; exact ok_some key
    | false => rw [if_neg (by decide)] at he key; rw [he]; exact ok_some key
  · show ok (f_Q_played x M) _
    unfold f_Q_played
    refine ok_pl (q_in_pb _ _ _ (by omega)) (fun z => absurd z h1) (fun _ => ok_pos rfl (ok_some ⟨rfl, hS, rfl, Kp_rf _⟩))
/-- an answer that changes nothing but what a law reckons with -/
def AN (M : pm_M) (y z : Int × pm_M) : Prop := y.1 = z.1 ∧ fr [65, 108, 109] M z.2
theorem AN_EN (hS : St M) {y z : Int × pm_M} (h : AN M y z) : EN M y z := by
  refine ⟨h.1, ⟨by rw [h.2 88 (by decide)]; exact hS.1, ?_⟩, by rw [h.2 88 (by decide)], Kp_fr h.2 (by decide)⟩
  rw [h.2 88 (by decide)]
  exact CX_fr h.2 (by decide) hS.2
def q_ofC (x1 x2 v1122 : Int) (M : pm_M) : Option (Int × pm_M) :=
      if x2 = 0 then (
        some (v1122, M))
      else
      if x2 = 1 then (
        if 0 ≤ (i_ad 78 x1) ∧ (i_ad 78 x1) < 4012 then (
        some ((M 88 ((i_ad 78 x1)).toNat), M)) else none)
      else
      if x2 = 2 then (
        if v1122 = (-1) then (
          some (0, M))
        else (
          (f_Q_tellsOf 0 x1 v1122 M).bind fun r1123 =>
          some (r1123.1, r1123.2)))
      else
      if x2 = 3 then (
        if v1122 = (-1) then (
          some (0, M))
        else (
          (f_Q_tellsOf 1 x1 v1122 M).bind fun r1124 =>
          some (r1124.1, r1124.2)))
      else
      if x2 = 4 then (
        if v1122 = (-1) then (
          some (0, M))
        else (
          (f_Q_tellsOf 2 x1 v1122 M).bind fun r1125 =>
          some (r1125.1, r1125.2)))
      else
      if x2 = 5 then (
        if v1122 = (-1) then (
          (f_Q_tellsOf 3 x1 (-1) M).bind fun r1126 =>
          some (r1126.1, r1126.2))
        else (
          some (0, M)))
      else
      (
        (f_Q_falls x1 M).bind fun r1127 =>
        if r1127.1 = 0 then (
          some (0, r1127.2))
        else (
          some (1, r1127.2)))
theorem st_of (hS : St M) (hX : TXS M (M 88 2)) (x w : Int) : ok (f_X_of x w M) (fun y => ok (f_Q_of x w y.2) (fun z => EN M y z)) := by
  obtain ⟨hA, hC⟩ := id hS
  have w0 := hA.1
  have w1 := hA.2.1
  refine ok_mono (Q1 := fun y => ok (f_Q_of x w y.2) (fun z => AN M y z)) ?_ (fun y hy => ok_mono hy (fun z hz => AN_EN hS hz))
  unfold f_X_of
  refine ok_pl (x_isPl hC.1.1.1 x) (fun h1 => ok_neg (by omega) ?_) (fun h1 => ok_pos rfl (ok_some ?_))
  · obtain ⟨p, ep⟩ : ∃ p : Nat, x = p := ⟨x.toNat, by omega⟩
    subst ep
    refine ok_be (x_headAt hC.2.1 (by omega)) ?_
    have hrp := (hA.2.2.2.2.2.2.2.2.2.1.1 p (by omega))
    have hJ : rJ (a_row (M 88)) := rW_rJ hA.2.2.2.2.2.2.2.2.2.1
    rw [tn_nat]
    have hC' : CX 24 36 1 (rU (M 88) (a_row (M 88))) M := by rw [rU_self]; exact hC
    have e70 : M 88 (70 + p) = a_row (M 88) p := rfl
    have e78 : M 88 (78 + p) = a_row (M 88) (8 + p) := congrArg (M 88) (by omega)
    have c70 : ((70 : Int) + (p : Int)).toNat = 70 + p := by omega
    have c78 : ((78 : Int) + (p : Int)).toNat = 78 + p := by omega
    have enter : ∀ (M1 : pm_M) (Q : Int × pm_M → Prop), M1 88 = M 88 → (0 ≤ w ∧ w ≤ 6) → ok (q_ofC p w (a_row (M 88) p) M1) Q → ok (f_Q_of p w M1) Q := by
      intro M1 Q h8 hw hk
      unfold f_Q_of
      refine ok_pl (q_isPl (congrFun h8 0) hA.1 _) (fun _ => ok_neg (by omega) ?_) (fun z => absurd h1 z)
      refine ok_dc (f_Q_in_eq w 0 6 M1) (fun _ => ok_neg (by omega) ?_) (fun z => absurd hw z)
      rw [i_ad_eq (a := 70) (by omega), c70, h8, e70]
      unfold q_ofC at hk
      rw [h8] at hk
      exact ok_pos (by omega) hk
    have out : ¬ (0 ≤ w ∧ w ≤ 6) → ok (f_Q_of p w M) (fun z => AN M (-2, M) z) := by
      intro hw
      unfold f_Q_of
      refine ok_pl (q_isPl rfl hA.1 _) (fun _ => ok_neg (by omega) ?_) (fun z => absurd h1 z)
      exact ok_dc (f_Q_in_eq w 0 6 M) (fun z => absurd z hw) (fun _ => ok_pos rfl (ok_some ⟨rfl, fr_rf _ _⟩))
    have hXr : TXS M (M 88 2) := hX
    -- a law asked on both sides
    have law : ∀ (L : Nat) (h : Int), L < 4 → hOK (M 88) L h → (∀ M1 : pm_M, ∀ Q : Int × pm_M → Prop, M1 88 = M 88 → ok ((f_Q_tellsOf L p h M1).bind fun r => some (r.1, r.2)) Q → ok (f_Q_of p w M1) Q) → ok ((f_Judge_amount L p h M).bind fun r => some (r.1, r.2)) (fun y => ok (f_Q_of p w y.2) (fun z => AN M y z)) := by
      intro L h hL hh hq
      refine ok_bind (x_am (L := L) (p := p) (h := h) (by omega) hA hXr hJ hC' (KA_rf M) h1.2 hh) (fun y hy => ok_some ?_)
      refine hq y.2 _ (hy.2 88 (by decide)) (ok_bind (q_am (M := y.2) (L := L) (p := p) (h := h) hL hA hXr hJ (by rw [hy.2 88 (by decide), rU_self]) (KA_fr hy.2 (by decide) (KA_rf M)) h1.2 hh) (fun z hz => ok_some ⟨by rw [hy.1, hz.1], fr_tr hy.2 hz.2 (by decide) (by decide)⟩))
    refine ok_ite (fun e => ?_) (fun e => ?_)
    · refine ok_ite (fun c0 => ok_some (enter M _ rfl (by omega) (ok_pos c0 (ok_some ⟨rfl, fr_rf _ _⟩)))) (fun c0 => ?_)
      refine ok_ite (fun c1 => ?_) (fun c1 => ?_)
      · refine ok_be (x_nameAt hC.2.1 (by omega)) (ok_some (enter M _ rfl (by omega) (ok_neg c0 (ok_pos c1 ?_))))
        rw [i_ad_eq (a := 78) (by omega), c78, e78, tn_nat]
        exact ok_pos (by omega) (ok_some ⟨rfl, fr_rf _ _⟩)
      refine ok_ite (fun c2 => ok_some (enter M _ rfl (by omega) (ok_neg c0 (ok_neg c1 (ok_pos c2 (ok_pos e (ok_some ⟨rfl, fr_rf _ _⟩))))))) (fun c2 => ?_)
      refine ok_ite (fun c3 => ok_some (enter M _ rfl (by omega) (ok_neg c0 (ok_neg c1 (ok_neg c2 (ok_pos c3 (ok_pos e (ok_some ⟨rfl, fr_rf _ _⟩)))))))) (fun c3 => ?_)
      refine ok_ite (fun c4 => ok_some (enter M _ rfl (by omega) (ok_neg c0 (ok_neg c1 (ok_neg c2 (ok_neg c3 (ok_pos c4 (ok_pos e (ok_some ⟨rfl, fr_rf _ _⟩))))))))) (fun c4 => ?_)
      refine ok_ite (fun c5 => ?_) (fun c5 => ?_)
      · exact law 3 (-1) (by omega) (Or.inl ⟨rfl, rfl⟩) (fun M1 Q h8 hk => enter M1 Q h8 (by omega) (ok_neg c0 (ok_neg c1 (ok_neg c2 (ok_neg c3 (ok_neg c4 (ok_pos c5 (ok_pos e hk))))))))
      refine ok_ite (fun c6 => ok_some (enter M _ rfl (by omega) (ok_neg c0 (ok_neg c1 (ok_neg c2 (ok_neg c3 (ok_neg c4 (ok_neg c5 ?_)))))))) (fun c6 => ok_some (out (by omega)))
      exact ok_be (q_fl0 (r := a_row (M 88)) hA hX (by rw [rU_self]) (KA_rf M) (by omega) e) (ok_pos rfl (ok_some ⟨rfl, fr_rf _ _⟩))
    · have hh : ∀ L : Nat, L ≠ 3 → hOK (M 88) L (a_row (M 88) p) := fun L hL => Or.inr ⟨by omega, by omega, by omega⟩
      refine ok_ite (fun c0 => ok_some (enter M _ rfl (by omega) (ok_pos c0 (ok_some ⟨rfl, fr_rf _ _⟩)))) (fun c0 => ?_)
      refine ok_ite (fun c1 => ?_) (fun c1 => ?_)
      · refine ok_be (x_nameAt hC.2.1 (by omega)) (ok_some (enter M _ rfl (by omega) (ok_neg c0 (ok_pos c1 ?_))))
        rw [i_ad_eq (a := 78) (by omega), c78, e78, tn_nat]
        exact ok_pos (by omega) (ok_some ⟨rfl, fr_rf _ _⟩)
      refine ok_ite (fun c2 => ?_) (fun c2 => ?_)
      · exact law 0 _ (by omega) (hh 0 (by omega)) (fun M1 Q h8 hk => enter M1 Q h8 (by omega) (ok_neg c0 (ok_neg c1 (ok_pos c2 (ok_neg e hk)))))
      refine ok_ite (fun c3 => ?_) (fun c3 => ?_)
      · exact law 1 _ (by omega) (hh 1 (by omega)) (fun M1 Q h8 hk => enter M1 Q h8 (by omega) (ok_neg c0 (ok_neg c1 (ok_neg c2 (ok_pos c3 (ok_neg e hk))))))
      refine ok_ite (fun c4 => ?_) (fun c4 => ?_)
      · exact law 2 _ (by omega) (hh 2 (by omega)) (fun M1 Q h8 hk => enter M1 Q h8 (by omega) (ok_neg c0 (ok_neg c1 (ok_neg c2 (ok_neg c3 (ok_pos c4 (ok_neg e hk)))))))
      refine ok_ite (fun c5 => ok_some (enter M _ rfl (by omega) (ok_neg c0 (ok_neg c1 (ok_neg c2 (ok_neg c3 (ok_neg c4 (ok_pos c5 (ok_neg e (ok_some ⟨rfl, fr_rf _ _⟩)))))))))) (fun c5 => ?_)
      refine ok_ite (fun c6 => ?_) (fun c6 => ok_some (out (by omega)))
      have hb := (am_b (L := 4) (p := p) (h := a_row (M 88) p) (by omega) hA hXr hJ h1.2 (hh 4 (by omega))).2 rfl
      refine ok_bind (x_am (L := 4) (p := p) (h := a_row (M 88) p) (by omega) hA hXr hJ hC' (KA_rf M) h1.2 (hh 4 (by omega))) (fun y hy => ok_some ?_)
      refine enter y.2 _ (hy.2 88 (by decide)) (by omega) (ok_neg c0 (ok_neg c1 (ok_neg c2 (ok_neg c3 (ok_neg c4 (ok_neg c5 ?_))))))
      refine ok_bind (q_fl (M := y.2) (p := p) hA hXr hJ (by rw [hy.2 88 (by decide), rU_self]) (KA_fr hy.2 (by decide) (KA_rf M)) h1.2 (by omega) (hh 4 (by omega))) (fun z hz => ?_)
      refine ok_ite (fun z0 => ok_some ⟨?_, fr_tr hy.2 hz.2 (by decide) (by decide)⟩) (fun z0 => ok_some ⟨?_, fr_tr hy.2 hz.2 (by decide) (by decide)⟩)
      · show y.1 = 0
        rw [hy.1, ← hz.1]; exact z0
      · show y.1 = 1
        rw [hy.1]
        rw [hz.1] at z0
        exact hb.resolve_left z0
  · show ok (f_Q_of x w M) _
    unfold f_Q_of
    refine ok_pl (q_isPl rfl hA.1 x) (fun z => absurd z h1) (fun _ => ok_pos rfl (ok_some ⟨rfl, fr_rf _ _⟩))
end
