/-! CLAUSES: small steps of both readers -/
section
variable {t0 N : Nat} {X Q : pm_M}
theorem told_1 (k : Int) {nc : Nat} (h28 : Q 87 28 = nc) (hn : nc ≤ 24) : ∀ (t n q : Nat), q + t = nc → t < n → f_Q_wasTold_L4 Q n k 1 q = some 1 := by
  intro t
  induction t with
  | zero =>
    intro n q hq hn'
    obtain ⟨n, rfl⟩ : ∃ a, n = a + 1 := ⟨n - 1, by omega⟩
    rw [f_Q_wasTold_L4, h28, if_pos (by omega)]
  | succ t ih =>
    intro n q hq hn'
    obtain ⟨n, rfl⟩ : ∃ a, n = a + 1 := ⟨n - 1, by omega⟩
    rw [f_Q_wasTold_L4, h28, if_neg (by omega), if_neg (by omega), i_ad_eq (by omega), show (q : Int) + 1 = ((q + 1 : Nat) : Int) by omega]
    exact ih n (q + 1) (by omega) (by omega)
theorem told_0 (k : Int) {nc : Nat} (h28 : Q 87 28 = nc) (hn : nc ≤ 24) (h : ∀ c, c < nc → Q 102 c ≠ k) : ∀ (t n q : Nat), q + t = nc → t < n → f_Q_wasTold_L4 Q n k 0 q = some 0 := by
  intro t
  induction t with
  | zero =>
    intro n q hq hn'
    obtain ⟨n, rfl⟩ : ∃ a, n = a + 1 := ⟨n - 1, by omega⟩
    rw [f_Q_wasTold_L4, h28, if_pos (by omega)]
  | succ t ih =>
    intro n q hq hn'
    obtain ⟨n, rfl⟩ : ∃ a, n = a + 1 := ⟨n - 1, by omega⟩
    rw [f_Q_wasTold_L4, h28, if_neg (by omega), if_pos rfl, if_pos (by omega), tn_nat, if_neg (h q (by omega)), i_ad_eq (by omega), show (q : Int) + 1 = ((q + 1 : Nat) : Int) by omega]
    exact ih n (q + 1) (by omega) (by omega)
theorem told_s (k : Int) {nc c : Nat} (h28 : Q 87 28 = nc) (hn : nc ≤ 24) (hc : c < nc) (h : Q 102 c = k) : ∀ (t n q : Nat), q + t = nc → q ≤ c → t < n → f_Q_wasTold_L4 Q n k 0 q = some 1 := by
  intro t
  induction t with
  | zero => intro n q hq hqc hn'; omega
  | succ t ih =>
    intro n q hq hqc hn'
    obtain ⟨n, rfl⟩ : ∃ a, n = a + 1 := ⟨n - 1, by omega⟩
    rw [f_Q_wasTold_L4, h28, if_neg (by omega), if_pos rfl, if_pos (by omega), tn_nat, i_ad_eq (by omega), show (q : Int) + 1 = ((q + 1 : Nat) : Int) by omega]
    by_cases e : Q 102 q = k
    · rw [if_pos e]; exact told_1 k h28 hn t n (q + 1) (by omega) (by omega)
    · rw [if_neg e]
      exact ih n (q + 1) (by omega) (by have : q ≠ c := fun z => e (z ▸ h); omega) (by omega)
theorem q_told0 {k : Int} {nc : Nat} (h28 : Q 87 28 = nc) (hn : nc ≤ 24) (h : ∀ c, c < nc → Q 102 c ≠ k) : f_Q_wasTold k Q = some 0 := by
  unfold f_Q_wasTold
  have := told_0 k h28 hn h nc pm_F 0 (by omega) (by unfold pm_F; omega)
  rw [show ((0 : Nat) : Int) = 0 from rfl] at this
  rw [this, ob, if_pos (Or.inl rfl)]
theorem q_told1 {k : Int} {nc c : Nat} (h28 : Q 87 28 = nc) (hn : nc ≤ 24) (hc : c < nc) (h : Q 102 c = k) : f_Q_wasTold k Q = some 1 := by
  unfold f_Q_wasTold
  have := told_s k h28 hn hc h nc pm_F 0 (by omega) (by omega) (by unfold pm_F; omega)
  rw [show ((0 : Nat) : Int) = 0 from rfl] at this
  rw [this, ob, if_pos (Or.inr rfl)]
/-- a number up to the most -/
theorem b_num {p mx : Nat} (hT : TPX X Q N) (hK : TK N X Q) (hp : Q 87 15 = p) (h18 : Q 87 18 = 0) (hm : mx ≤ 9999) :
    (∃ X' Q' p', f_Reader_numberUpTo mx X = some (1, X') ∧ f_Q_number 0 mx Q = some (X 66 4, Q') ∧ TPX X' Q' N ∧ TK N X' Q' ∧ Q' 87 15 = ((p' : Nat) : Int) ∧ p < p' ∧ p' ≤ N ∧ fs 66 [3, 4, 5, 6] X X' ∧ fs 87 [14, 15, 16, 17] Q Q') ∨
    (∃ X' Q', f_Reader_numberUpTo mx X = some (0, X') ∧ f_Q_number 0 mx Q = some (0, Q') ∧ fs 66 [7, 8] X X' ∧ fs 87 [18, 19] Q Q' ∧ 0 < X' 66 7 ∧ Q' 87 18 = X' 66 7 ∧ Q' 87 19 = X' 66 8) := by
  have hK' := hK
  obtain ⟨k1, k2, k3, k4, k5, k6, _⟩ := hK'
  have hsg := sg_ge (Q 87 17)
  unfold f_Reader_numberUpTo f_Q_number
  rw [if_neg (show ¬ 0 < Q 87 18 by omega)]
  by_cases h16 : Q 87 16 = 2
  · obtain ⟨n1, n2, n3⟩ := k6 h16
    have h3 : X 66 3 = 37 := by rw [k1, h16]; rfl
    have hin : f_Q_in (Q 87 17) 0 mx Q = some (if Q 87 17 ≤ mx then 1 else 0) := by
      unfold f_Q_in
      rw [if_neg (by omega)]
      by_cases z : Q 87 17 ≤ mx
      · rw [if_pos z, if_neg (by omega)]
      · rw [if_neg z, if_pos (by omega)]
    rw [if_pos h3, if_pos h16, hin, ob]
    by_cases hb : Q 87 17 ≤ mx
    · have hv : X 66 4 = Q 87 17 := by rw [n3]; unfold i_mn; rw [if_neg (by omega)]
      obtain ⟨X2, Q2, p', b1, b2, b3, b4, b5, b6, b7, b8, b9, b10⟩ := b_step hT hK hp
      rw [hv, if_pos hb, if_pos hb, if_neg (by omega), b1, ob, b2, ob]
      exact Or.inl ⟨X2, Q2, p', rfl, rfl, b3, b4, b5, b6 (by omega), b8, b9, b10⟩
    · have hv : ¬ X 66 4 ≤ mx := by
        rw [n3]; unfold i_mn
        by_cases z : 10000 < Q 87 17
        · rw [if_pos z]; omega
        · rw [if_neg z]; omega
      obtain ⟨X', a1, a2, a3, a4⟩ := x_fail 2 X
      obtain ⟨Q', b1, b2, b3, b4⟩ := q_errs0 2 h18
      rw [if_neg hv, if_neg hb, if_pos rfl, a1, ob, if_pos (Or.inl rfl), b1, ob]
      exact Or.inr ⟨X', Q', rfl, rfl, a2, b2, by omega, by omega, by rw [b4, a4, k2]⟩
  · have h3 : X 66 3 ≠ 37 := by
      rw [k1]; unfold ckd
      by_cases z0 : Q 87 16 = 0
      · rw [if_pos z0]; omega
      · rw [if_neg z0]
        by_cases z1 : Q 87 16 = 1
        · rw [if_pos z1]; have := k5 z1; omega
        · rw [if_neg z1, if_neg h16]
          by_cases z3 : Q 87 16 = 3
          · rw [if_pos z3]; omega
          · rw [if_neg z3]; omega
    obtain ⟨X', a1, a2, a3, a4⟩ := x_fail 1 X
    obtain ⟨Q', b1, b2, b3, b4⟩ := q_errs0 1 h18
    rw [if_neg h3, if_neg h16, a1, ob, if_pos (Or.inl rfl), b1, ob]
    exact Or.inr ⟨X', Q', rfl, rfl, a2, b2, by omega, by omega, by rw [b4, a4, k2]⟩
/-- a token expected, the class's side -/
theorem x_exp_n {w : Int} (h : X 66 3 ≠ w) : ∃ X', f_Reader_expect w X = some (0, X') ∧ fs 66 [7, 8] X X' ∧ X' 66 7 = 1 ∧ X' 66 8 = X 66 5 := by
  obtain ⟨X', a1, a2, a3, a4⟩ := x_fail 1 X
  refine ⟨X', ?_, a2, a3, a4⟩
  unfold f_Reader_expect
  rw [if_neg h, a1, ob, if_pos (Or.inl rfl)]
theorem x_exp_y {w : Int} {X' : pm_M} (h : X 66 3 = w) (ha : f_Reader_advance X = some X') : f_Reader_expect w X = some (1, X') := by
  unfold f_Reader_expect
  rw [if_pos h, ha, ob]
/-- the reference ends a clause -/
theorem b_stop {o nc p : Nat} {frs : List Int} {pend ql : List (Int × Int)} (hT : TPX X Q N) (hK : TK N X Q) (hR : RS Q o frs pend ql) (hpw : Pw 1 2 frs.length pend) (h28 : Q 87 28 = nc) (hn : nc < 24) (hp : Q 87 15 = p) (hq : ql.length + pend.length ≤ 398) :
    (∃ X', f_Reader_expect 34 X = some (0, X') ∧ f_Q_isSign 59 Q = some 0 ∧ fs 66 [7, 8] X X' ∧ X' 66 7 = 1 ∧ X' 66 8 = Q 87 15) ∨
    (∃ X' Q' p', f_Reader_expect 34 X = some (1, X') ∧ f_Q_isSign 59 Q = some 1 ∧ f_Q_clauseIsOver Q = some Q' ∧ TPX X' Q' N ∧ TK N X' Q' ∧ RS Q' o [] [] (ql ++ zw pend ++ [(408, 0)]) ∧ Q' 87 28 = ((nc + 1 : Nat) : Int) ∧ Q' 87 27 = 4 ∧ Q' 87 15 = ((p' : Nat) : Int) ∧ p < p' ∧ p' ≤ N ∧ fs 66 [3, 4, 5, 6] X X' ∧ fz [87, 106, 107] [14, 15, 16, 17, 21, 24, 27, 28, 34] Q Q') := by
  have hsg := sg_ge (Q 87 17)
  have e34 := ck_sg hK (v := 34) (by omega)
  by_cases h : X 66 3 = 34
  · right
    have e := e34.mp h
    have e17 : Q 87 17 = 59 := hsg.2.2.2.2.2.2.2.mp e.2
    obtain ⟨Q1, w1, w2, w3⟩ := q_works (r := 1) (ws0 := []) (pend := pend) (by rw [List.append_nil]; exact hR) trivial (by rw [List.append_nil]; have := hpw.1; omega) (by omega) hpw.2
    generalize hQ2 : pm_ms Q1 87 21 0 = Q2
    have f2 : fz [87] [21] Q1 Q2 := by rw [← hQ2]; exact fz_87 (by decide) (by decide)
    have R2 : RS Q2 o [] [] (ql ++ zw pend) := by
      obtain ⟨h1, h2, h3, h4, h5, h6, h7, h8, h9⟩ := w2
      exact ⟨by rw [f2.2 20 (by decide)]; exact h1, by rw [← hQ2, ms_at]; rfl, trivial, by rw [f2.2 24 (by decide)]; exact h4, trivial, trivial, by rw [f2.2 34 (by decide)]; exact h7, by rw [f2.1 106 (by decide), f2.1 107 (by decide)]; exact h8, by rw [f2.2 18 (by decide)]; exact h9⟩
    obtain ⟨Q3, a1, a2, a3⟩ := q_emits R2 (by rw [List.length_append, zw_len]; omega) 408 0
    have f13 : fz [87, 106, 107] [21, 24, 34] Q Q3 := fz_tr (fz_tr (C := [87, 106, 107]) (S := [21, 24, 34]) w3 f2 (by decide) (by decide) (by decide) (by decide)) a3 (by decide) (by decide) (by decide) (by decide)
    have g28 : Q3 87 28 = nc := by rw [f13.2 28 (by decide)]; exact h28
    generalize hQ4 : pm_ms Q3 87 28 ((nc : Int) + 1) = Q4
    have f4 : fz [87] [28] Q3 Q4 := by rw [← hQ4]; exact fz_87 (by decide) (by decide)
    have f14 : fz [87, 106, 107] [21, 24, 28, 34] Q Q4 := fz_tr f13 f4 (by decide) (by decide) (by decide) (by decide)
    have T4 : TPX X Q4 N := by unfold TPX; rw [f14.1 90 (by decide), f14.2 13 (by decide)]; exact hT
    have K4 : TK N X Q4 := TK_mo hK rfl (f14.2 14 (by decide)) (f14.2 15 (by decide)) (f14.2 16 (by decide)) (f14.2 17 (by decide))
    obtain ⟨X5, Q5, p', b1, b2, b3, b4, b5, b6, b7, b8, b9, b10⟩ := b_step T4 K4 (p := p) (by rw [f14.2 15 (by decide)]; exact hp)
    generalize hQ6 : pm_ms Q5 87 27 4 = Q6
    have f6 : fz [87] [27] Q5 Q6 := by rw [← hQ6]; exact fz_87 (by decide) (by decide)
    have f46 : fz [87] [14, 15, 16, 17, 27] Q4 Q6 := fz_tr (fz_fs b10) f6 (by decide) (by decide) (by decide) (by decide)
    have f36 : fz [87] [14, 15, 16, 17, 27, 28] Q3 Q6 := fz_tr f4 f46 (by decide) (by decide) (by decide) (by decide)
    refine ⟨X5, Q6, p', x_exp_y h b1, ?_, ?_, ?_, ?_, ?_, ?_, by rw [← hQ6, ms_at], by rw [f6.2 15 (by decide)]; exact b5, b6 (by rw [f14.2 16 (by decide)]; omega), b8, b9, fz_tr f14 f46 (by decide) (by decide) (by decide) (by decide)⟩
    · unfold f_Q_isSign; rw [if_pos e.1, if_pos e17]
    · unfold f_Q_clauseIsOver
      rw [w1, ob, pbd, hQ2, a1, ob, g28, i_ad_eq (by omega), pbd, hQ4, b2, ob, pbd, hQ6]
    · unfold TPX; rw [f6.1 90 (by decide), f6.2 13 (by decide)]; exact b3
    · exact TK_mo b4 rfl (f6.2 14 (by decide)) (f6.2 15 (by decide)) (f6.2 16 (by decide)) (f6.2 17 (by decide))
    · exact RS_fz (C := [87]) (S := [14, 15, 16, 17, 27, 28]) a2 f36 (by decide) (by decide) (by decide) (by decide) (by decide) (by decide) (by decide) (by decide) (by decide) (by decide)
    · rw [f46.2 28 (by decide), ← hQ4, ms_at]; omega
  · left
    obtain ⟨X', a1, a2, a3, a4⟩ := x_exp_n h
    refine ⟨X', a1, ?_, a2, a3, by rw [a4]; exact hK.2.1⟩
    unfold f_Q_isSign
    by_cases z : Q 87 16 = 3
    · rw [if_pos z, if_neg (fun z2 => h (e34.mpr ⟨z, hsg.2.2.2.2.2.2.2.mpr z2⟩))]
    · rw [if_neg z]
/-- the class adds a clause -/
theorem x_addC {nc : Nat} (h5 : X t0 5 = nc) (hn : nc < 24) {k : Int} (hk : 0 ≤ k) (a b : Int) : ∃ X', f_Text_addClause t0 k a b X = some X' ∧ X' t0 = aS (X t0) 5 ((nc : Int) + 1) ∧ X' (t0 + 1 + 0) = aS (X (t0 + 1 + 0)) nc k ∧ X' (t0 + 1 + 1) = aS (X (t0 + 1 + 1)) nc a ∧ X' (t0 + 1 + 2) = aS (X (t0 + 1 + 2)) nc b ∧ (X' (t0 + 1 + 3) = if 4 < k then X (t0 + 1 + 3) else aS (X (t0 + 1 + 3)) k.toNat nc) ∧ fr [t0, t0 + 1 + 0, t0 + 1 + 1, t0 + 1 + 2, t0 + 1 + 3] X X' := by
  unfold f_Text_addClause f_Text_isFull
  rw [h5, if_pos (by omega), ob, if_pos rfl, if_pos (by omega), tn_nat, pbd]
  generalize hX1 : pm_ms X (t0 + 1 + 0) nc k = X1
  have e1 : X1 t0 = X t0 := by rw [← hX1, ms_nc _ _ _ _ (by omega)]
  rw [e1, h5, if_pos (by omega), tn_nat, pbd]
  generalize hX2 : pm_ms X1 (t0 + 1 + 1) nc a = X2
  have e2 : X2 t0 = X t0 := by rw [← hX2, ms_nc _ _ _ _ (by omega), e1]
  rw [e2, h5, if_pos (by omega), tn_nat, pbd]
  generalize hX3 : pm_ms X2 (t0 + 1 + 2) nc b = X3
  have e3 : X3 t0 = X t0 := by rw [← hX3, ms_nc _ _ _ _ (by omega), e2]
  have g0 : X3 (t0 + 1 + 0) = aS (X (t0 + 1 + 0)) nc k := by rw [← hX3, ms_nc _ _ _ _ (by omega), ← hX2, ms_nc _ _ _ _ (by omega), ← hX1, msc]
  have g1 : X3 (t0 + 1 + 1) = aS (X (t0 + 1 + 1)) nc a := by rw [← hX3, ms_nc _ _ _ _ (by omega), ← hX2, msc, ← hX1, ms_nc _ _ _ _ (by omega)]
  have g2 : X3 (t0 + 1 + 2) = aS (X (t0 + 1 + 2)) nc b := by rw [← hX3, msc, ← hX2, ms_nc _ _ _ _ (by omega), ← hX1, ms_nc _ _ _ _ (by omega)]
  have g3 : X3 (t0 + 1 + 3) = X (t0 + 1 + 3) := by rw [← hX3, ms_nc _ _ _ _ (by omega), ← hX2, ms_nc _ _ _ _ (by omega), ← hX1, ms_nc _ _ _ _ (by omega)]
  have f3 : fr [t0, t0 + 1 + 0, t0 + 1 + 1, t0 + 1 + 2, t0 + 1 + 3] X X3 := by
    rw [← hX3, ← hX2, ← hX1]
    exact fr_2 (fr_2 (fr_ms (by simp)) (fr_ms (by simp))) (fr_ms (by simp))
  by_cases h4 : 4 < k
  · rw [if_pos h4, e3, h5, i_ad_eq (by omega), pbd]
    refine ⟨_, rfl, ?_, ?_, ?_, ?_, ?_, fr_2 f3 (fr_ms (by simp))⟩
    · rw [msc, e3]
    · rw [ms_nc _ _ _ _ (by omega)]; exact g0
    · rw [ms_nc _ _ _ _ (by omega)]; exact g1
    · rw [ms_nc _ _ _ _ (by omega)]; exact g2
    · rw [ms_nc _ _ _ _ (by omega), if_pos h4]; exact g3
  · rw [if_neg h4, if_pos (by omega), e3, h5, pbd, ms_nc X3 _ _ _ (a := t0) (by omega), e3, h5, i_ad_eq (by omega), pbd]
    refine ⟨_, rfl, ?_, ?_, ?_, ?_, ?_, fr_2 f3 (fr_2 (fr_ms (by simp)) (fr_ms (by simp)))⟩
    · rw [msc, ms_nc _ _ _ _ (by omega), e3]
    · rw [ms_nc _ _ _ _ (by omega), ms_nc _ _ _ _ (by omega)]; exact g0
    · rw [ms_nc _ _ _ _ (by omega), ms_nc _ _ _ _ (by omega)]; exact g1
    · rw [ms_nc _ _ _ _ (by omega), ms_nc _ _ _ _ (by omega)]; exact g2
    · rw [ms_nc _ _ _ _ (by omega), msc, if_neg h4, g3]
end
