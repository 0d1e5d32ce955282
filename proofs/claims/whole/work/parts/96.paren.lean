/-! ONE: brackets, and all of one -/
section
variable {t0 N : Nat} {X Q : pm_M}
theorem ck_sg {v : Int} (hK : TK N X Q) (hv : 24 ≤ v ∧ v ≤ 36) : X 66 3 = v ↔ (Q 87 16 = 3 ∧ sg (Q 87 17) = v) := by
  obtain ⟨k1, _, _, k4, k5, _⟩ := hK
  rw [k1]
  unfold ckd
  by_cases z0 : Q 87 16 = 0
  · rw [if_pos z0]; omega
  · rw [if_neg z0]
    by_cases z1 : Q 87 16 = 1
    · rw [if_pos z1]; have := k5 z1; omega
    · rw [if_neg z1]
      by_cases z2 : Q 87 16 = 2
      · rw [if_pos z2]; omega
      · rw [if_neg z2]
        by_cases z3 : Q 87 16 = 3
        · rw [if_pos z3]; exact ⟨fun h => ⟨z3, h⟩, fun h => h.2⟩
        · rw [if_neg z3]; omega
theorem q_go65 {o : Nat} {f : Int} {frs : List Int} {ws ql : List (Int × Int)} (h : RS Q o (f :: frs) ws ql) (hl : frs.length < 40) (hJ : J3 (Q 87 16) (Q 87 17)) : f_Q_goesOn Q = f_Q_goesOn_J65 f Q := by
  unfold f_Q_goesOn
  rw [q_top h hl, ob]
  unfold J3 at hJ
  by_cases h3 : Q 87 16 = 3
  · rw [if_pos h3, if_neg (by omega), if_neg (by omega), if_neg (by omega), if_neg (by omega)]
  · rw [if_neg h3]
theorem zw_len (w : List (Int × Int)) : (zw w).length = w.length := List.length_map ..
theorem bar_up {ws : List (Int × Int)} {F : Nat} {r : Int} (h : ∀ c ∈ ws, c.2 ≤ (F : Int)) : bar r (F + 1) ws := by
  cases ws with
  | nil => trivial
  | cons c w => exact Or.inl (by have := h c (List.mem_cons_self ..); omega)
/-- brackets -/
theorem s_paren {o k sb : Nat} {frs : List Int} {ws : List (Int × Int)} {L : Int} (ht : tx4 t0) (hl : frs.length < 39) (ho : o < 8) (hws : ∀ c ∈ ws, c.2 ≤ (frs.length : Int)) (hwl : ws.length ≤ 70) (IH : SM t0 N (fun X => f_rd k 0 3 ((o + 1 : Nat) : Int) X) (Ej 2 J3) 1 (Pw 3 2 (frs.length + 1)) (o + 1) (6 :: frs) ws L false CA sb)
    {p : Nat} {cl ql : List (Int × Int)} {s : List Bool} (hY : SY t0 N X Q cl) (hR : RS Q o frs ws ql) (h27 : Q 87 27 = 1) (h29 : Q 87 29 = L) (hp : Q 87 15 = p) (h16 : Q 87 16 = 3) (h17 : Q 87 17 = 40) (hcl : cl.length ≤ p) (hql : ql.length ≤ p + 24) (hs : s.length ≤ sb) : ok (f_Reader_one (f_rd k) o X) (fun y => FLS t0 N X Q p y ∨ SUC t0 N E1 (fun pend => pend = []) o frs ws cl ql L false CA s X Q p y) := by
  have h3 : X 66 3 = 32 := by rw [hY.2.1.1, h16, h17]; rfl
  have h300 := hY.1.2.1
  have h18 : Q 87 18 = 0 := hR.2.2.2.2.2.2.2.2
  obtain ⟨X1, Q1, p1, a1, a2, a3, a4, a5, a6, a7, a8, a9, a10, a11, a12, a13⟩ := b_open ht hY hR (by omega) ho hp (by omega) 6
  have hL : ∀ n, f_Q_text_L74 (n + 1) Q = f_Q_text_L74 n Q1 := fun n => by
    rw [L_1 n h18 h27]
    unfold f_Q_begins f_Q_isSign
    rw [if_neg (by omega), if_neg (by omega), if_pos h16, if_pos h17, ob, if_neg (by omega), a2, ob, ob]
  unfold f_Reader_one f_Reader_one_J57 f_Reader_one_J81
  rw [h3, if_neg (by omega), if_neg (by omega), if_pos (by omega), if_pos rfl, if_pos (by omega), if_pos rfl, a1, ob, i_ad_eq (by omega)]
  refine ok_bind (IH X1 Q1 cl ql s p1 a3 a4 (by rw [a8]; exact h27) (by rw [a9]; exact h29) a5 (by omega) (by omega) hs) (fun y hy => ?_)
  rcases hy with hy | hy
  · rw [if_pos hy.1, ← hy.1]
    exact ok_some (Or.inl (fls_pre hL a10 (fz_mo a13 CA_CC (idm _)) (by omega) (by omega) a7 hy))
  · obtain ⟨c1, c2, c3, c4, lq, pend, Q2, c, p', d1, d2, d3, d4, d5, d6, d7, d8, ⟨d9, dJ, dL⟩, d10⟩ := hy
    have hpN := (p_le d4.2.1 d1).1
    have hl2 : ∀ n, f_Q_text_L74 (n + (c + 1)) Q = f_Q_text_L74 n Q2 := fun n => by rw [← Nat.add_assoc, hL, dL]
    have f2 : fz CA SS Q Q2 := fz_tr a13 d10 (idm _) (idm _) (idm _) (idm _)
    have g18 : Q2 87 18 = 0 := d5.2.2.2.2.2.2.2.2
    rw [if_neg (by omega)]
    unfold f_Reader_expect
    have hsg := sg_ge (Q2 87 17)
    by_cases h33 : y.2 66 3 = 33
    · have e := (ck_sg d4.2.1 (by omega)).mp h33
      have e17 : Q2 87 17 = 41 := hsg.2.2.2.2.2.2.1.mp e.2
      obtain ⟨Q3, w1, w2, w3⟩ := q_works (r := 3) d5 (bar_up hws) (by rw [List.length_append]; have := d7.1; omega) (by rw [List.length_append]; omega) d7.2
      generalize hQ4 : pm_ms (pm_ms Q3 87 21 (i_sb (Q3 87 21) 1)) 87 20 (i_sb (pm_ms Q3 87 21 (i_sb (Q3 87 21) 1) 87 20) 1) = Q4
      have f4 : fz [87] [20, 21] Q3 Q4 := by
        rw [← hQ4]
        exact fz_tr (fz_87 (C := [87]) (S := [20, 21]) (by decide) (by decide)) (fz_87 (C := [87]) (S := [20, 21]) (by decide) (by decide)) (by decide) (by decide) (by decide) (by decide)
      have R4 : RS Q4 o frs ws (ql ++ lq ++ zw pend) := RS_pop w2 (by rw [← hQ4, ms_at, ms_nj _ _ _ _ (by omega), w2.1, i_sb_eq (by omega)]; omega) (by rw [← hQ4, ms_nj _ _ _ _ (by omega), ms_at, w2.2.1, List.length_cons, i_sb_eq (by omega)]; omega) f4
      have f34 : fz [87, 106, 107] [20, 21, 24, 34] Q2 Q4 := fz_tr w3 f4 (by decide) (by decide) (by decide) (by decide)
      have T4 : TPX y.2 Q4 N := TPX_g d4.1 ht (gx_rf t0 y.2) f34 (by decide) (by decide)
      have K4 : TK N y.2 Q4 := TK_mo d4.2.1 rfl (f34.2 14 (by decide)) (f34.2 15 (by decide)) (f34.2 16 (by decide)) (f34.2 17 (by decide))
      obtain ⟨X5, Q5, p5, b1, b2, b3, b4, b5, b6, b7, b8, b9, b10⟩ := b_step T4 K4 (p := p') (by rw [f34.2 15 (by decide)]; exact d1)
      have hlt := b6 (by rw [f34.2 16 (by decide)]; omega)
      rw [if_pos h33, b1, ob, ob, if_neg (by omega)]
      refine ok_some (Or.inr ⟨rfl, gx_tr a10 (gx_tr c2 (gx_fs ht b9 (by decide) (by decide))), ?_, ?_, lq ++ zw pend, [], Q5, c + 2, p5, b5, by omega, by omega, ⟨b3, b4, ?_, ?_⟩, ?_, ?_, rfl, ?_, ?_, ?_⟩)
      · show X5 66 7 = X 66 7
        rw [b9.2 7 (by decide), c3, a11]
      · show X5 66 8 = X 66 8
        rw [b9.2 8 (by decide), c4, a12]
      · rw [show lq ++ zw pend ++ zw [] = lq ++ zw pend from List.append_nil _]
        exact XS_fs ht d4.2.2.1 b9 (by decide)
      · show X5 66 2 = Q5 87 29
        rw [b9.2 2 (by decide), b10.2 29 (by decide), f34.2 29 (by decide)]; exact d4.2.2.2
      · rw [← List.append_assoc]
        exact RS_fz (C := [87]) (S := [14, 15, 16, 17]) R4 b10 (by decide) (by decide) (by decide) (by decide) (by decide) (by decide) (by decide) (by decide) (by decide) (by decide)
      · rw [List.length_append, zw_len]; show lq.length + pend.length + 0 ≤ p5 - p; omega
      · rw [show lq ++ zw pend ++ zw [] = lq ++ zw pend from List.append_nil _]
        exact d8
      · intro n
        rw [show n + (c + 2) = (n + 1) + (c + 1) by omega, hl2, L_2 n g18 d9, q_go65 d5 (by omega) dJ]
        unfold f_Q_goesOn_J65 f_Q_isSign
        rw [if_pos rfl, if_pos e.1, if_pos e17, ob, if_neg (by omega), w1, ob, pbd, pbd, hQ4, b2, ob]
        cases f_Q_oneIsOver Q5 <;> rfl
      · exact fz_tr (fz_tr (C := CA) (S := SS) f2 f34 (idm _) (idm _) (by decide) (by decide)) (fz_fs b10) (idm _) (idm _) (by decide) (by decide)
    · obtain ⟨X2, b1, b2⟩ := fls_1 (N := N) (p := p') (e := 1) (X := y.2) (Q := Q2) ht (gx_rf t0 y.2) (XS_lo d4.2.2.1 (by rw [List.length_append, List.length_append, zw_len]; omega)) d4.2.1.2.1 g18 (by omega) (fun n => by
        rw [L_2 n g18 d9, q_go65 d5 (by omega) dJ]
        unfold f_Q_goesOn_J65 f_Q_isSign f_Q_goesOn_J116 f_Q_goesOn_J181
        rw [if_pos rfl]
        have hn : (if Q2 87 16 = 3 then if Q2 87 17 = 41 then some 1 else some 0 else some 0) = some (0 : Int) := by
          by_cases z : Q2 87 16 = 3
          · rw [if_pos z]
            by_cases z2 : Q2 87 17 = 41
            · exact absurd ((ck_sg d4.2.1 (by omega)).mpr ⟨z, hsg.2.2.2.2.2.2.1.mpr z2⟩) h33
            · rw [if_neg z2]
          · rw [if_neg z]
        rw [hn, ob, if_pos rfl, if_neg (by omega), if_neg (by omega), if_neg (by omega)]
        cases f_Q_errs 1 Q2 <;> rfl)
      rw [if_neg h33, b1, ob, if_pos (Or.inl rfl), ob, if_pos rfl]
      exact ok_some (Or.inl (fls_pre hl2 (gx_tr a10 c2) (fz_mo f2 CA_CC (idm _)) (by omega) (by omega) hpN b2))
/-- too deep -/
theorem s_deep {p k : Nat} {frs : List Int} {ws cl ql : List (Int × Int)} (ht : tx4 t0) (hY : SY t0 N X Q cl) (hR : RS Q 8 frs ws ql) (h27 : Q 87 27 = 1) (hp : Q 87 15 = p) (h16 : Q 87 16 = 3) (h17 : Q 87 17 = 40 ∨ Q 87 17 = 45) (hcl : cl.length ≤ p) : ok (f_Reader_one (f_rd k) ((8 : Nat) : Int) X) (FLS t0 N X Q p) := by
  obtain ⟨y1, y2, y3, y4⟩ := hY
  have y2' := y2
  obtain ⟨k1, k2, k3, k4, k5, k6, _⟩ := y2'
  have hpN := (p_le y2 hp).1
  have h300 := y1.2.1
  have h18 : Q 87 18 = 0 := hR.2.2.2.2.2.2.2.2
  have h20 : Q 87 20 = 8 := hR.1
  have hsg := sg_ge (Q 87 17)
  have h3 : X 66 3 = sg (Q 87 17) := by rw [k1, h16]; rfl
  have h3' : X 66 3 = 32 ∨ X 66 3 = 29 := by omega
  obtain ⟨X2, b1, b2⟩ := fls_1 (N := N) (p := p) (e := 3) ht (gx_rf t0 X) (XS_lo y3 (by omega)) k2 h18 (by omega) (fun n => by
    rw [L_1 n h18 h27]
    unfold f_Q_begins f_Q_isSign f_Q_opensSign
    rw [if_neg (by omega), if_neg (by omega), if_pos h16]
    rcases h17 with z | z
    · rw [if_pos z, ob, if_neg (by omega), if_pos h20]
      cases f_Q_errs 3 Q <;> rfl
    · rw [if_neg (by omega), ob, if_pos rfl, if_pos h16, if_pos z, ob, if_neg (by omega), if_pos h20]
      cases f_Q_errs 3 Q <;> rfl)
  have eJ : f_Reader_one_J81 (f_rd k) ((8 : Nat) : Int) X = some (0, X2) := by
    unfold f_Reader_one_J81
    rw [if_neg (by omega), b1, ob, if_pos (Or.inl rfl)]
  unfold f_Reader_one f_Reader_one_J57
  rw [if_neg (by omega), if_neg (by omega), if_pos (by omega), eJ]
  rcases h3' with z | z
  · rw [if_pos z]; exact ok_some b2
  · rw [if_neg (by omega), if_pos z]; exact ok_some b2
/-- all of one -/
theorem s_one {o k sb : Nat} {frs : List Int} {ws : List (Int × Int)} {L : Int} (ht : tx4 t0) (hl : frs.length < 39) (ho : o ≤ 8) (hsb : sb ≤ 39) (hws : ∀ c ∈ ws, c.2 ≤ (frs.length : Int)) (hwl : ws.length ≤ 70) (IHp : o < 8 → SM t0 N (fun X => f_rd k 0 3 ((o + 1 : Nat) : Int) X) (Ej 2 J3) 1 (Pw 3 2 (frs.length + 1)) (o + 1) (6 :: frs) ws L false CA sb) (IHm : o < 8 → SM t0 N (fun X => f_rd k 3 ((o + 1 : Nat) : Int) 0 X) E1 1 (fun pend => pend = []) (o + 1) (7 :: frs) ws L false CA sb) : SM t0 N (fun X => f_rd (k + 1) 3 (o : Int) 0 X) E1 1 (fun pend => pend = []) o frs ws L false CA sb := by
  intro X Q cl ql s p hY hR h27 h29 hp hcl hql hs
  show ok (f_Reader_one (f_rd k) o X) _
  by_cases z2 : Q 87 16 = 2
  · exact s_num ht hY hR h27 hp z2 hcl hql (by omega)
  · by_cases z1 : Q 87 16 = 1 ∧ 14 ≤ Q 87 17
    · exact s_name ht hY hR h27 h29 hp z1.1 z1.2 hcl hql (by omega)
    · by_cases z3 : Q 87 16 = 3 ∧ (Q 87 17 = 40 ∨ Q 87 17 = 45)
      · by_cases h8 : o < 8
        · rcases z3 with ⟨a, b | b⟩
          · exact s_paren ht hl h8 hws hwl (IHp h8) hY hR h27 h29 hp a b hcl hql hs
          · exact s_minus ht (by omega) h8 hsb (IHm h8) hY hR h27 h29 hp a b hcl hql hs
        · have e8 : o = 8 := by omega
          subst e8
          exact ok_mono (s_deep ht hY hR h27 hp z3.1 z3.2 hcl) (fun y h => Or.inl h)
      · exact ok_mono (s_none ht hY hR h27 hp z2 (fun z => by omega) (fun z => by omega) hcl) (fun y h => Or.inl h)
end
