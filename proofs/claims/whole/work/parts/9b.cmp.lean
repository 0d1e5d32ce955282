/-! ASKS: a comparison, all asks, both, either -/
section
variable {t0 N : Nat} {X Q : pm_M}
def aski (x : Int) : Int := if x = 60 then 1 else if x = 62 then 1 else if x = 61 then 1 else if x = 35 then 1 else if x = 300 then 1 else if x = 301 then 1 else 0
theorem q_ask1 (x : Int) (M : pm_M) : f_Q_isAsking x M = some (aski x) := by
  unfold f_Q_isAsking aski
  repeat' split
  all_goals rfl
theorem aski_c (x : Int) : (aski x = 0 ∧ ¬ isC x) ∨ (aski x = 1 ∧ isC x) := by
  unfold aski isC
  repeat' split
  all_goals omega
def cmpi (x : Int) : Int := if x < 24 then (if x = 35 then 1 else if x = 36 then 1 else 0) else (if x ≤ 27 then 1 else if x = 35 then 1 else if x = 36 then 1 else 0)
theorem x_cmp1 (x : Int) (M : pm_M) : f_Reader_compares x M = some (cmpi x) := by
  unfold f_Reader_compares cmpi
  repeat' split
  all_goals rfl
theorem cmpi_c (x : Int) : (cmpi x = 1 ∧ ((24 ≤ x ∧ x ≤ 27) ∨ x = 35 ∨ x = 36)) ∨ (cmpi x = 0 ∧ ¬ ((24 ≤ x ∧ x ≤ 27) ∨ x = 35 ∨ x = 36)) := by
  unfold cmpi
  repeat' split
  all_goals omega
theorem sg_c (b : Int) : ((24 ≤ sg b ∧ sg b ≤ 27) ∨ sg b = 35 ∨ sg b = 36) ↔ isC b := by
  unfold sg isC
  repeat' split
  all_goals omega
theorem sg_oc {b : Int} (h : isC b) : oc (b, 0) = 10000 + sg b := by
  rcases h with e | e | e | e | e | e <;> subst e <;> decide
/-- a comparing sign, both readers -/
theorem b_cmp (hK : TK N X Q) : (cmpi (X 66 3) = 0 ∧ ¬ (Q 87 16 = 3 ∧ isC (Q 87 17))) ∨ (cmpi (X 66 3) = 1 ∧ Q 87 16 = 3 ∧ isC (Q 87 17) ∧ oc (Q 87 17, 0) = 10000 + X 66 3 ∧ (0 ≤ X 66 3 ∧ X 66 3 ≤ 40)) := by
  have hc := cmpi_c (X 66 3)
  have hs := sg_c (Q 87 17)
  have hsg := sg_ge (Q 87 17)
  have hK' := hK
  obtain ⟨k1, _, _, k4, k5, _⟩ := hK'
  by_cases z3 : Q 87 16 = 3
  · have e : X 66 3 = sg (Q 87 17) := by rw [k1, z3]; rfl
    by_cases zc : isC (Q 87 17)
    · have := hs.mpr zc
      exact Or.inr ⟨by omega, z3, zc, by rw [e]; exact sg_oc zc, by omega⟩
    · refine Or.inl ⟨?_, fun z => zc z.2⟩
      have : ¬ ((24 ≤ sg (Q 87 17) ∧ sg (Q 87 17) ≤ 27) ∨ sg (Q 87 17) = 35 ∨ sg (Q 87 17) = 36) := fun z => zc (hs.mp z)
      omega
  · refine Or.inl ⟨?_, fun z => z3 z.1⟩
    have : X 66 3 = 38 ∨ X 66 3 ≤ 23 ∨ X 66 3 = 37 ∨ X 66 3 = 39 := by
      rw [k1]
      unfold ckd
      by_cases z0 : Q 87 16 = 0
      · rw [if_pos z0]; omega
      · rw [if_neg z0]
        by_cases z1 : Q 87 16 = 1
        · rw [if_pos z1]; have := k5 z1; omega
        · rw [if_neg z1]
          by_cases z2 : Q 87 16 = 2
          · rw [if_pos z2]; omega
          · rw [if_neg z2, if_neg z3]; omega
    omega
/-- the frame turns: its first sum is over -/
theorem q_reframe {o : Nat} {f : Int} {frs : List Int} {ws ql : List (Int × Int)} (h : RS Q o (f :: frs) ws ql) (v g : Int) : ∃ Q', pm_ms (pm_ms Q 99 (frs.length + 1) v) 98 frs.length g = Q' ∧ RS Q' o (g :: frs) ws ql ∧ fz [98, 99] [] Q Q' ∧ Q' 99 (frs.length + 1) = v := by
  obtain ⟨h1, h2, h3, h4, h5, h6, h7, h8, h9⟩ := h
  generalize hQ : pm_ms (pm_ms Q 99 (frs.length + 1) v) 98 frs.length g = Q'
  have f : fz [98, 99] [] Q Q' := by
    rw [← hQ]
    exact fz_tr (fz_c (C := [98, 99]) (S := []) (by decide) (by decide)) (fz_c (C := [98, 99]) (S := []) (by decide) (by decide)) (by decide) (by decide) (by decide) (by decide)
  refine ⟨Q', rfl, ⟨by rw [f.2 20 (by decide)]; exact h1, by rw [f.2 21 (by decide)]; exact h2, ?_, by rw [f.2 24 (by decide)]; exact h4, by rw [f.1 100 (by decide)]; exact h5, by rw [f.1 101 (by decide)]; exact h6, by rw [f.2 34 (by decide)]; exact h7, by rw [f.1 106 (by decide), f.1 107 (by decide)]; exact h8, by rw [f.2 18 (by decide)]; exact h9⟩, f, ?_⟩
  · rw [← hQ, msc, ms_nc _ 99 _ _ (a := 98) (by omega)]
    exact stk_push h3.2
  · rw [← hQ, ms_nc _ 98 _ _ (a := 99) (by omega), ms_at]
/-- a comparison -/
theorem s_cmp {o k sb : Nat} {frs : List Int} {ws : List (Int × Int)} {L : Int} (ht : tx4 t0) (hl : frs.length < 38) (hsb : sb ≤ 37) (hws : ∀ c ∈ ws, c.2 ≤ (frs.length : Int)) (hwl : ws.length ≤ 70)
    (IH : ∀ f, f = 4 ∨ f = 5 → SM t0 N (fun X => f_rd k 0 3 (o : Int) X) (Ej 2 J3) 1 (Pw 3 2 (frs.length + 1)) o (f :: frs) ws L false CA (sb + 1))
    {p : Nat} {cl ql : List (Int × Int)} {s : List Bool} (hY : SY t0 N X Q cl) (hR : RS Q o frs ws ql) (h27 : Q 87 27 = 0) (h29 : Q 87 29 = L) (hp : Q 87 15 = p) (hn : ¬ (Q 87 16 = 1 ∧ Q 87 17 = 13)) (hcl : cl.length ≤ p) (hql : ql.length ≤ p + 24) (hs : s.length ≤ sb) : ok (f_Reader_ask (f_rd k) o X) (fun y => FLS t0 N X Q p y ∨ SUC t0 N E3 (fun pend => pend = []) o frs ws cl ql L true CC s X Q p y) := by
  have h3 : X 66 3 ≠ 13 := fun z => hn ((ck_wd hY.2.1 (by omega)).mp z)
  have h300 := hY.1.2.1
  have h18 : Q 87 18 = 0 := hR.2.2.2.2.2.2.2.2
  have sQ : slk Q = 1 := by unfold slk; rw [if_pos h27]
  obtain ⟨Qa, a1, a2, a3⟩ := q_frame hR (by omega) 4
  generalize hQ1 : pm_ms Qa 87 27 1 = Q1
  have fa : fz [87] [27] Qa Q1 := by rw [← hQ1]; exact fz_87 (by decide) (by decide)
  have f1 : fz [87, 98] [21, 27] Q Q1 := fz_tr a3 fa (by decide) (by decide) (by decide) (by decide)
  have g27 : Q1 87 27 = 1 := by rw [← hQ1, ms_at]
  have s1 : slk Q1 = 0 := by unfold slk; rw [if_neg (by omega)]
  have hL1 : ∀ n, f_Q_text_L74 (n + 1) Q = f_Q_text_L74 n Q1 := fun n => by
    rw [L_0 n h18 h27]
    unfold f_Q_asks f_Q_isWord
    have e : (if Q 87 16 = 1 then if Q 87 17 = 13 then some 1 else some 0 else some 0) = some (0 : Int) := by
      by_cases z : Q 87 16 = 1
      · rw [if_pos z, if_neg (fun z2 => hn ⟨z, z2⟩)]
      · rw [if_neg z]
    rw [e, ob, if_pos rfl, a1, ob, pbd, hQ1, ob]
  have hY1 : SY t0 N X Q1 cl := ⟨TPX_g hY.1 ht (gx_rf t0 X) f1 (by decide) (by decide), TK_mo hY.2.1 rfl (f1.2 14 (by decide)) (f1.2 15 (by decide)) (f1.2 16 (by decide)) (f1.2 17 (by decide)), hY.2.2.1, by rw [f1.2 29 (by decide)]; exact hY.2.2.2⟩
  have hR1 : RS Q1 o (4 :: frs) ws ql := RS_fz (C := [87]) (S := [27]) a2 fa (by decide) (by decide) (by decide) (by decide) (by decide) (by decide) (by decide) (by decide) (by decide) (by decide)
  have fQ1 : fz CC SS Q Q1 := fz_mo f1 (by decide) (by decide)
  unfold f_Reader_ask
  rw [if_neg h3]
  refine ok_bind (IH 4 (Or.inl rfl) X Q1 cl ql s p hY1 hR1 g27 (by rw [f1.2 29 (by decide)]; exact h29) (by rw [f1.2 15 (by decide)]; exact hp) hcl hql (by omega)) (fun y hy => ?_)
  rcases hy with hy | hy
  · rw [if_pos hy.1, ← hy.1]
    obtain ⟨_, _, _, c0, _, hc0, _⟩ := id hy
    exact ok_some (Or.inl (fls_pre0 hL1 (gx_rf t0 X) fQ1 (by omega) (Nat.le_refl _) (p_le hY.2.1 hp).1 hy))
  · obtain ⟨c1, c2, c3, c4, lq, pend, Q2, c, p1, d1, d2, d3, d4, d5, d6, d7, d8, ⟨d9, dJ, dL⟩, d10⟩ := hy
    have hpN1 := p_le d4.2.1 d1
    have hl2 : ∀ n, f_Q_text_L74 (n + (c + 1)) Q = f_Q_text_L74 n Q2 := fun n => by rw [← Nat.add_assoc, hL1, dL]
    have f2 : fz CC SS Q Q2 := fz_tr fQ1 d10 (idm _) (idm _) CA_CC (idm _)
    have g18 : Q2 87 18 = 0 := d5.2.2.2.2.2.2.2.2
    have s2 : slk Q2 = 0 := by unfold slk; rw [if_neg (by omega)]
    have hcc : (cl ++ (lq ++ zw pend)).length ≤ p1 := by rw [List.length_append, List.length_append, zw_len]; omega
    rw [if_neg (by omega), x_cmp1, ob]
    rcases b_cmp d4.2.1 with ⟨j1, j2⟩ | ⟨j1, j2, j3, j4, j5⟩
    · rw [if_pos j1]
      obtain ⟨X2, b1, b2⟩ := fls_1 (N := N) (p := p1) (e := 1) (X := y.2) (Q := Q2) ht (gx_rf t0 y.2) (XS_lo d4.2.2.1 (by omega)) d4.2.1.2.1 g18 (by omega) (fun n => by
        rw [L_2 n g18 d9, q_go65 d5 (by omega) dJ]
        unfold f_Q_goesOn_J65 f_Q_goesOn_J116
        have e181 : f_Q_goesOn_J181 4 Q2 = (f_Q_errs 1 Q2).bind fun M => some M := by
          unfold f_Q_goesOn_J181
          rw [if_neg (by decide), if_neg (by decide)]
        rw [if_neg (by decide), if_pos rfl, e181]
        by_cases z : Q2 87 16 = 3
        · have e : aski (Q2 87 17) = 0 := by
            rcases aski_c (Q2 87 17) with e | e
            · exact e.1
            · exact absurd ⟨z, e.2⟩ j2
          rw [if_pos z, q_ask1, ob, if_pos e]
          cases f_Q_errs 1 Q2 <;> rfl
        · rw [if_neg z]
          cases f_Q_errs 1 Q2 <;> rfl)
      rw [b1, ob, if_pos (Or.inl rfl)]
      exact ok_some (Or.inl (fls_pre0 hl2 c2 f2 (by omega) (by omega) hpN1.1 b2))
    · rw [if_neg (by omega)]
      have hpN2 := hpN1.2 (by omega)
      obtain ⟨Q3, w1, w2, w3⟩ := q_works (r := 3) d5 (bar_up hws) (by rw [List.length_append]; have := d7.1; omega) (by rw [List.length_append]; omega) d7.2
      obtain ⟨Q4, r1, r2, r3, r4⟩ := q_reframe w2 (Q2 87 17) 5
      have f24 : fz [87, 98, 99, 106, 107] [24, 34] Q2 Q4 := fz_tr w3 r3 (by decide) (by decide) (by decide) (by decide)
      have T4 : TPX y.2 Q4 N := TPX_g d4.1 ht (gx_rf t0 y.2) f24 (by decide) (by decide)
      have K4 : TK N y.2 Q4 := TK_mo d4.2.1 rfl (f24.2 14 (by decide)) (f24.2 15 (by decide)) (f24.2 16 (by decide)) (f24.2 17 (by decide))
      obtain ⟨X5, Q5, p2, b1, b2, b3, b4, b5, b6, b7, b8, b9, b10⟩ := b_step T4 K4 (p := p1) (by rw [f24.2 15 (by decide)]; exact d1)
      have hlt := b6 (by rw [f24.2 16 (by decide)]; omega)
      generalize hQ6 : pm_ms Q5 87 27 1 = Q6
      have f56 : fz [87] [27] Q5 Q6 := by rw [← hQ6]; exact fz_87 (by decide) (by decide)
      have f46 : fz [87] [14, 15, 16, 17, 27] Q4 Q6 := fz_tr (fz_fs b10) f56 (by decide) (by decide) (by decide) (by decide)
      have f26 : fz [87, 98, 99, 106, 107] [14, 15, 16, 17, 24, 27, 34] Q2 Q6 := fz_tr f24 f46 (by decide) (by decide) (by decide) (by decide)
      have fQ6 : fz CC SS Q Q6 := fz_tr f2 f26 (idm _) (idm _) (by decide) (by decide)
      have hL6 : ∀ n, f_Q_text_L74 (n + (c + 2)) Q = f_Q_text_L74 n Q6 := fun n => by
        rw [show n + (c + 2) = (n + 1) + (c + 1) by omega, hl2, L_2 n g18 d9, q_go65 d5 (by omega) dJ]
        unfold f_Q_goesOn_J65 f_Q_goesOn_J116
        have e1 : aski (Q2 87 17) ≠ 0 := by
          rcases aski_c (Q2 87 17) with e | e
          · exact absurd j3 e.2
          · omega
        have e21 : Q3 87 21 = ((frs.length + 1 : Nat) : Int) := w2.2.1
        have e17 : Q3 87 17 = Q2 87 17 := w3.2 17 (by decide)
        rw [if_neg (by omega), if_pos rfl, if_pos j2, q_ask1, ob, if_neg e1, w1, ob, e21, if_pos (by omega), tn_nat, pbd, ms_nc Q3 99 _ _ (a := 87) (by omega), e21, i_sb_eq (by omega), show ((frs.length + 1 : Nat) : Int) - 1 = frs.length by omega, if_pos (by omega), tn_nat, pbd, e17, r1, b2, ob, pbd, hQ6, ob]
      have hY6 : SY t0 N X5 Q6 (cl ++ (lq ++ zw pend)) := ⟨TPX_g b3 ht (gx_rf t0 X5) f56 (by decide) (by decide), TK_mo b4 rfl (f56.2 14 (by decide)) (f56.2 15 (by decide)) (f56.2 16 (by decide)) (f56.2 17 (by decide)), XS_fs ht d4.2.2.1 b9 (by decide), by rw [b9.2 2 (by decide), f26.2 29 (by decide)]; exact d4.2.2.2⟩
      have hR6 : RS Q6 o (5 :: frs) ws (ql ++ lq ++ zw pend) := RS_fz (C := [87]) (S := [14, 15, 16, 17, 27]) r2 f46 (by decide) (by decide) (by decide) (by decide) (by decide) (by decide) (by decide) (by decide) (by decide) (by decide)
      have g1 : gx t0 y.2 X5 := gx_fs ht b9 (by decide) (by decide)
      rw [b1, ob]
      refine ok_bind (IH 5 (Or.inr rfl) X5 Q6 _ _ (false :: s) p2 hY6 hR6 (by rw [← hQ6, ms_at]) (by rw [fQ6.2 29 (by decide)]; exact h29) (by rw [f56.2 15 (by decide)]; exact b5) (by omega) (by rw [List.length_append, List.length_append, zw_len]; omega) (by rw [List.length_cons]; omega)) (fun z hz => ?_)
      rcases hz with hz | hz
      · obtain ⟨X', e1, e2⟩ := fls_post ht hz (y.2 66 3)
        rw [e1, ob, if_pos (Or.inl hz.1), hz.1]
        exact ok_some (Or.inl (fls_pre hL6 (gx_tr c2 g1) fQ6 (by omega) (by omega) b8 e2))
      · obtain ⟨u1, u2, u3, u4, lq2, pend2, Q7, c', p3, v1, v2, v3, v4, v5, v6, v7, v8, ⟨v9, vJ, vL⟩, v10⟩ := hz
        have hpN3 := p_le v4.2.1 v1
        have k18 : Q7 87 18 = 0 := v5.2.2.2.2.2.2.2.2
        have hlen : (cl ++ (lq ++ zw pend) ++ (lq2 ++ zw pend2)).length < p3 := by rw [List.length_append, List.length_append (as := lq2), zw_len]; omega
        have hlq : (ql ++ lq ++ zw pend ++ lq2).length + pend2.length < p3 + 24 := by rw [List.length_append, List.length_append, List.length_append, zw_len]; omega
        obtain ⟨X', e1, e2, e3, e4⟩ := x_emit (x := y.2 66 3) (c := (Q2 87 17, 0)) ht v4.2.2.1 (by omega) j4 j5
        obtain ⟨Q8, m1, m2, m3⟩ := q_works (r := 3) v5 (bar_up hws) (by rw [List.length_append]; have := v7.1; omega) (by omega) v7.2
        have e21 : Q8 87 21 = ((frs.length + 1 : Nat) : Int) := m2.2.1
        have e99 : Q8 99 (frs.length + 1) = Q2 87 17 := by rw [m3.1 99 (by decide), v10.1 99 (by decide), f46.1 99 (by decide)]; exact r4
        generalize hQ9 : pm_ms Q8 87 21 (frs.length : Int) = Q9
        have f89 : fz [87] [21] Q8 Q9 := by rw [← hQ9]; exact fz_87 (by decide) (by decide)
        have R9 : RS Q9 o frs ws (ql ++ lq ++ zw pend ++ lq2 ++ zw pend2) := by
          obtain ⟨h1, h2, h3, h4, h5, h6, h7, h8, h9⟩ := m2
          exact ⟨by rw [f89.2 20 (by decide)]; exact h1, by rw [← hQ9, ms_at], by rw [f89.1 98 (by decide)]; exact h3.2, by rw [f89.2 24 (by decide)]; exact h4, by rw [f89.1 100 (by decide)]; exact h5, by rw [f89.1 101 (by decide)]; exact h6, by rw [f89.2 34 (by decide)]; exact h7, by rw [f89.1 106 (by decide), f89.1 107 (by decide)]; exact h8, by rw [f89.2 18 (by decide)]; exact h9⟩
        obtain ⟨Q10, n1, n2, n3⟩ := q_emits R9 (by rw [List.length_append, zw_len]; omega) (Q2 87 17) 0
        have f710 : fz [87, 106, 107] [21, 24, 34] Q7 Q10 := fz_tr (fz_tr (C := [87, 106, 107]) (S := [21, 24, 34]) m3 f89 (by decide) (by decide) (by decide) (by decide)) n3 (by decide) (by decide) (by decide) (by decide)
        have ez : lq ++ zw pend ++ lq2 ++ zw pend2 ++ [(Q2 87 17, 0)] ++ zw [] = (lq ++ zw pend) ++ ((lq2 ++ zw pend2) ++ [(Q2 87 17, 0)]) := by
          show lq ++ zw pend ++ lq2 ++ zw pend2 ++ [(Q2 87 17, 0)] ++ [] = _
          simp only [List.append_assoc, List.append_nil]
        have ec : cl ++ (lq ++ zw pend ++ lq2 ++ zw pend2 ++ [(Q2 87 17, 0)] ++ zw []) = cl ++ (lq ++ zw pend) ++ (lq2 ++ zw pend2) ++ [(Q2 87 17, 0)] := by
          rw [ez]
          simp only [List.append_assoc]
        have eR : RS Q10 o frs ([] ++ ws) (ql ++ (lq ++ zw pend ++ lq2 ++ zw pend2 ++ [(Q2 87 17, 0)])) := by
          rw [← List.append_assoc ql, ← List.append_assoc ql, ← List.append_assoc ql, ← List.append_assoc ql]
          exact n2
        rw [e1, ob, if_pos (Or.inr u1), u1]
        refine ok_some (Or.inr ⟨rfl, gx_tr c2 (gx_tr g1 (gx_tr u2 e3)), ?_, ?_, lq ++ zw pend ++ lq2 ++ zw pend2 ++ [(Q2 87 17, 0)], [], Q10, c + 2 + c' + 1, p3, ?_, by omega, by omega, ⟨TPX_g v4.1 ht e3 f710 (by decide) (by decide), TK_mo v4.2.1 e4 (f710.2 14 (by decide)) (f710.2 15 (by decide)) (f710.2 16 (by decide)) (f710.2 17 (by decide)), by rw [ec]; exact e2, ?_⟩, eR, ?_, rfl, ?_, ?_, ?_⟩)
        · show X' 66 7 = X 66 7
          rw [e4, u3, b9.2 7 (by decide), c3]
        · show X' 66 8 = X 66 8
          rw [e4, u4, b9.2 8 (by decide), c4]
        · rw [f710.2 15 (by decide)]; exact v1
        · show X' 66 2 = Q10 87 29
          rw [e4, f710.2 29 (by decide)]; exact v4.2.2.2
        · rw [List.length_append, List.length_append, List.length_append, List.length_append, zw_len, zw_len]
          show lq.length + pend.length + lq2.length + pend2.length + 1 + 0 ≤ p3 - p
          omega
        · rw [ez]
          exact trs_app _ _ _ _ _ d8 (trs_app _ _ _ _ _ v8 ⟨_, ⟨by rw [List.length_cons]; omega, Or.inr (Or.inr (Or.inr (Or.inr (Or.inr (Or.inl ⟨j3, s, rfl, rfl⟩)))))⟩, rfl⟩)
        · intro n
          rw [show n + (c + 2 + c' + 1) = (n + 1 + c') + (c + 2) by omega, hL6, vL, L_2 n k18 v9, q_go65 v5 (by omega) vJ]
          unfold f_Q_goesOn_J65 f_Q_goesOn_J116 f_Q_goesOn_J181
          rw [if_neg (by omega), if_neg (by omega), if_pos rfl, m1, ob, e21, if_pos (by omega), tn_nat, e99, pbd, i_sb_eq (by omega), show ((frs.length + 1 : Nat) : Int) - 1 = frs.length by omega, pbd, hQ9, n1, ob]
          cases f_Q_askIsOver Q10 <;> rfl
        · exact fz_tr (fz_tr (C := CC) (S := SS) fQ6 v10 (idm _) (idm _) CA_CC (idm _)) f710 (idm _) (idm _) (by decide) (by decide)
end
