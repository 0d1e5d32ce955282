/-! ASKS: not, comparisons -/
section
variable {t0 N : Nat} {X Q : pm_M}
/-- unwinding does not ask for much fuel -/
theorem aover_fuel : ∀ (F n m : Nat) (Q : pm_M), Q 87 21 = F → F ≤ 1000 → F < n → F < m → f_Q_askIsOver_L0 n Q = f_Q_askIsOver_L0 m Q := by
  intro F
  induction F with
  | zero =>
    intro n m Q h h1 hn hm
    obtain ⟨n, rfl⟩ : ∃ a, n = a + 1 := ⟨n - 1, by omega⟩
    obtain ⟨m, rfl⟩ : ∃ a, m = a + 1 := ⟨m - 1, by omega⟩
    rw [f_Q_askIsOver_L0, f_Q_askIsOver_L0]
    unfold f_Q_top
    rw [h, i_sb_eq (by omega), if_neg (by omega)]
    rfl
  | succ F ih =>
    intro n m Q h h1 hn hm
    obtain ⟨n, rfl⟩ : ∃ a, n = a + 1 := ⟨n - 1, by omega⟩
    obtain ⟨m, rfl⟩ : ∃ a, m = a + 1 := ⟨m - 1, by omega⟩
    rw [f_Q_askIsOver_L0, f_Q_askIsOver_L0]
    cases f_Q_top Q with
    | none => rfl
    | some v =>
      rw [ob, ob, pbd, pbd, pbd, pbd]
      by_cases h7 : v = 3
      · rw [if_pos h7, if_pos h7]
        generalize hQ1 : pm_ms (pm_ms Q 87 21 (i_sb (Q 87 21) 1)) 87 20 (i_sb (pm_ms Q 87 21 (i_sb (Q 87 21) 1) 87 20) 1) = Q1
        have e21 : Q1 87 21 = F := by rw [← hQ1, ms_nj _ _ _ _ (by omega), ms_at, h, i_sb_eq (by omega)]; omega
        cases he : f_Q_emits 405 0 Q1 with
        | none => rfl
        | some Q2 =>
          rw [ob, ob]
          exact ih n m Q2 (by rw [em_21 he]; exact e21) (by omega) (by omega) (by omega)
      · rw [if_neg h7, if_neg h7]
/-- one frame of a not unwound -/
theorem q_over3 {o : Nat} {frs : List Int} {ws ql : List (Int × Int)} (h : RS Q (o + 1) (3 :: frs) ws ql) (hl : frs.length < 40) (ho : o < 9) (hq : ql.length < 400) : ∃ Q', f_Q_askIsOver Q = f_Q_askIsOver Q' ∧ RS Q' o frs ws (ql ++ [(405, 0)]) ∧ fz [87, 106, 107] [20, 21, 34] Q Q' := by
  generalize hQ1 : pm_ms (pm_ms Q 87 21 (i_sb (Q 87 21) 1)) 87 20 (i_sb (pm_ms Q 87 21 (i_sb (Q 87 21) 1) 87 20) 1) = Q1
  have f1 : fz [87] [20, 21] Q Q1 := by
    rw [← hQ1]
    exact fz_tr (fz_87 (C := [87]) (S := [20, 21]) (by decide) (by decide)) (fz_87 (C := [87]) (S := [20, 21]) (by decide) (by decide)) (by decide) (by decide) (by decide) (by decide)
  have R1 : RS Q1 o frs ws ql := RS_pop h (by rw [← hQ1, ms_at, ms_nj _ _ _ _ (by omega), h.1, i_sb_eq (by omega)]; omega) (by rw [← hQ1, ms_nj _ _ _ _ (by omega), ms_at, h.2.1, List.length_cons, i_sb_eq (by omega)]; omega) f1
  obtain ⟨Q2, a1, a2, a3⟩ := q_emits R1 hq 405 0
  refine ⟨Q2, ?_, a2, fz_tr f1 a3 (by decide) (by decide) (by decide) (by decide)⟩
  unfold f_Q_askIsOver
  have e : f_Q_askIsOver_L0 pm_F Q = f_Q_askIsOver_L0 pm_F Q2 := by
    rw [aover_fuel (frs.length + 1) pm_F (frs.length + 1 + 1) Q (by rw [h.2.1]; rfl) (by omega) (by unfold pm_F; omega) (by omega), f_Q_askIsOver_L0, q_top h hl, ob, if_pos rfl, pbd, pbd, hQ1, a1, ob]
    exact aover_fuel frs.length _ _ Q2 a2.2.1 (by omega) (by omega) (by unfold pm_F; omega)
  rw [e]
theorem q_aover_n {o : Nat} {f : Int} {frs : List Int} {ws ql : List (Int × Int)} (h : RS Q o (f :: frs) ws ql) (hl : frs.length < 40) (hf : f ≠ 3) : f_Q_askIsOver Q = some (pm_ms Q 87 27 3) := by
  unfold f_Q_askIsOver
  rw [show pm_F = 999999999 + 1 from rfl, f_Q_askIsOver_L0, q_top h hl, ob, if_neg hf, ob, pbd]
/-- a not -/
theorem s_not {o k sb : Nat} {frs : List Int} {ws : List (Int × Int)} {L : Int} (ht : tx4 t0) (hl : frs.length < 40) (ho : o < 8) (hsb : sb ≤ 38) (IH : SM t0 N (fun X => f_rd k 2 ((o + 1 : Nat) : Int) 0 X) E3 0 (fun pend => pend = []) (o + 1) (3 :: frs) ws L true CC sb)
    {p : Nat} {cl ql : List (Int × Int)} {s : List Bool} (hY : SY t0 N X Q cl) (hR : RS Q o frs ws ql) (h27 : Q 87 27 = 0) (h29 : Q 87 29 = L) (hp : Q 87 15 = p) (h16 : Q 87 16 = 1) (h17 : Q 87 17 = 13) (hcl : cl.length ≤ p) (hql : ql.length ≤ p + 24) (hs : s.length ≤ sb) : ok (f_Reader_ask (f_rd k) o X) (fun y => FLS t0 N X Q p y ∨ SUC t0 N E3 (fun pend => pend = []) o frs ws cl ql L true CC s X Q p y) := by
  have h3 : X 66 3 = 13 := by rw [hY.2.1.1, h16, h17]; rfl
  have h300 := hY.1.2.1
  have h18 : Q 87 18 = 0 := hR.2.2.2.2.2.2.2.2
  obtain ⟨X1, Q1, p1, a1, a2, a3, a4, a5, a6, a7, a8, a9, a10, a11, a12, a13⟩ := b_open ht hY hR hl ho hp (by omega) 3
  have hL : ∀ n, f_Q_text_L74 (n + 1) Q = f_Q_text_L74 n Q1 := fun n => by
    rw [L_0 n h18 h27]
    unfold f_Q_asks f_Q_isWord
    rw [if_pos h16, if_pos h17, ob, if_neg (by omega), a2, ob, ob]
  have fA : fz CC SS Q Q1 := fz_mo a13 CA_CC (idm _)
  unfold f_Reader_ask
  rw [h3, if_pos rfl, if_pos (by omega), a1, ob, i_ad_eq (by omega)]
  refine ok_bind (IH X1 Q1 cl ql s p1 a3 a4 (by rw [a8]; exact h27) (by rw [a9]; exact h29) a5 (by omega) (by omega) hs) (fun y hy => ?_)
  rcases hy with hy | hy
  · obtain ⟨X', b1, b2⟩ := fls_post ht hy 13
    rw [b1, ob, if_pos (Or.inl hy.1), hy.1]
    exact ok_some (Or.inl (fls_pre hL a10 fA (by omega) (by omega) a7 b2))
  · obtain ⟨c1, c2, c3, c4, lq, pend, Q2, c, p', d1, d2, d3, d4, d5, d6, d7, d8, d9, d10⟩ := hy
    have d7 : pend = [] := d7
    subst d7
    rw [show lq ++ zw [] = lq from List.append_nil _] at d4 d8
    rw [List.nil_append] at d5
    rw [List.length_nil] at d6
    have hpN := (p_le d4.2.1 d1).1
    obtain ⟨X', b1, b2, b3, b4⟩ := x_emit (x := 13) (c := (405, 0)) ht d4.2.2.1 (by rw [List.length_append]; omega) rfl (by omega)
    obtain ⟨Q3, e1, e2, e3⟩ := q_over3 d5 hl (by omega) (by rw [List.length_append]; omega)
    rw [b1, ob, if_pos (Or.inr c1), c1]
    refine ok_some (Or.inr ⟨rfl, gx_tr a10 (gx_tr c2 b3), ?_, ?_, lq ++ [(405, 0)], [], Q3, c + 1, p', ?_, by omega, by omega, ?_, ?_, ?_, rfl, ?_, ?_, ?_⟩)
    · show X' 66 7 = X 66 7
      rw [b4, c3, a11]
    · show X' 66 8 = X 66 8
      rw [b4, c4, a12]
    · rw [e3.2 15 (by decide)]; exact d1
    · rw [show lq ++ [(405, 0)] ++ zw [] = lq ++ [(405, 0)] from List.append_nil _, ← List.append_assoc]
      exact ⟨TPX_g d4.1 ht b3 e3 (by decide) (by decide), TK_mo d4.2.1 b4 (e3.2 14 (by decide)) (e3.2 15 (by decide)) (e3.2 16 (by decide)) (e3.2 17 (by decide)), b2, by show X' 66 2 = _; rw [b4, e3.2 29 (by decide)]; exact d4.2.2.2⟩
    · rw [← List.append_assoc]; exact e2
    · rw [List.length_append]; show lq.length + 1 + 0 ≤ p' - p; omega
    · rw [show lq ++ [(405, 0)] ++ zw [] = lq ++ [(405, 0)] from List.append_nil _]
      exact trs_app _ _ _ _ _ d8 ⟨_, ⟨by show s.length + 1 ≤ 40; omega, Or.inr (Or.inr (Or.inr (Or.inl ⟨rfl, s, rfl, rfl⟩)))⟩, rfl⟩
    · intro n
      rw [← Nat.add_assoc, hL, d9, e1]
    · exact fz_tr (fz_tr (C := CC) (S := SS) fA d10 (idm _) (idm _) (idm _) (idm _)) e3 (idm _) (idm _) (by decide) (by decide)
/-- too many nots -/
theorem s_notd {k : Nat} {frs : List Int} {ws : List (Int × Int)} {p : Nat} {cl ql : List (Int × Int)} (ht : tx4 t0) (hY : SY t0 N X Q cl) (hR : RS Q 8 frs ws ql) (h27 : Q 87 27 = 0) (hp : Q 87 15 = p) (h16 : Q 87 16 = 1) (h17 : Q 87 17 = 13) (hcl : cl.length ≤ p) : ok (f_Reader_ask (f_rd k) ((8 : Nat) : Int) X) (FLS t0 N X Q p) := by
  have h3 : X 66 3 = 13 := by rw [hY.2.1.1, h16, h17]; rfl
  have h300 := hY.1.2.1
  have hpN := (p_le hY.2.1 hp).1
  have h18 : Q 87 18 = 0 := hR.2.2.2.2.2.2.2.2
  have h20 : Q 87 20 = 8 := hR.1
  obtain ⟨X2, b1, b2⟩ := fls_1 (N := N) (p := p) (e := 3) ht (gx_rf t0 X) (XS_lo hY.2.2.1 (by omega)) hY.2.1.2.1 h18 (by omega) (fun n => by
    rw [L_0 n h18 h27]
    unfold f_Q_asks f_Q_isWord f_Q_opensSign
    rw [if_pos h16, if_pos h17, ob, if_neg (by omega), if_pos h20]
    cases f_Q_errs 3 Q <;> rfl)
  unfold f_Reader_ask
  rw [h3, if_pos rfl, if_neg (by omega), b1, ob, if_pos (Or.inl rfl)]
  exact ok_some b2
end
