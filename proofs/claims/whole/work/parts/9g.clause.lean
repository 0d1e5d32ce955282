/-! CLAUSES: both readers -/
section
variable {t0 N : Nat} {X Q : pm_M}
theorem flc_mk {p : Nat} {X' Qf : pm_M} (h18 : Q 87 18 = 0) (h27 : Q 87 27 = 4) (h16 : Q 87 16 ≠ 0) (hg : gy t0 X X') (h0 : 0 < X' 66 7) (hc : f_Q_clause Q = some Qf) (e18 : Qf 87 18 = X' 66 7) (e19 : Qf 87 19 = X' 66 8) (hf : fz CD SDF Q Qf) : FLc t0 N X Q p (0, X') := by
  refine ⟨rfl, hg, 2, Qf, by omega, fun n => ?_, e18, e19, h0, hf⟩
  rw [show n + 2 = (n + 1) + 1 from rfl, L_4 (n + 1) h18 h27 h16, hc, ob, L_stop n (by omega)]
theorem yy_01 {p : Nat} {y : Int × pm_M} (h : FLc t0 N X Q p y ∨ SUc t0 N X Q p y) : y.1 = 0 ∨ y.1 = 1 := by
  rcases h with h | h
  · exact Or.inl h.1
  · exact Or.inr h.1
theorem gy_c {X' : pm_M} {S : List Nat} (ht : tx4 t0) (h : fs 66 S X X') (i : Nat) (hi : i ≤ 5) : X' (t0 + i) = X (t0 + i) := by
  unfold tx4 at ht
  exact fs_o h (by omega)
/-- a deed -/
theorem s_deed {nc p : Nat} {cl ql : List (Int × Int)} {k : Int} {X1 : pm_M} (ht : tx4 t0) (hS : CLS t0 N X Q nc cl ql p) (hnc : nc < 24) (h16 : Q 87 16 = 1) (h17 : Q 87 17 = k) (hk : 5 ≤ k ∧ k ≤ 8) (hadv : f_Reader_advance X = some X1) : ∃ y, f_Reader_deed k X1 = some y ∧ (FLc t0 N X Q p y ∨ SUc t0 N X Q p y) := by
  have hS' := hS
  obtain ⟨s1, s2, s3, s4, s5, s6, s7, s8, s9, s10, s11⟩ := hS'
  have h18 : Q 87 18 = 0 := s4.2.2.2.2.2.2.2.2
  obtain ⟨Qs, r1, r2, r3, r4, r5, r6, r7, r8⟩ := q_start (nc := nc) s4 k
  have T1 : TPX X Qs N := by unfold TPX; rw [r3.1 90 (by decide), r3.2 13 (by decide)]; exact s1
  have K1 : TK N X Qs := TK_mo s2 rfl (r3.2 14 (by decide)) (r3.2 15 (by decide)) (r3.2 16 (by decide)) (r3.2 17 (by decide))
  obtain ⟨X1', Q2, p1, b1, b2, b3, b4, b5, b6, b7, b8, b9, b10⟩ := b_step T1 K1 (p := p) (by rw [r3.2 15 (by decide)]; exact s8)
  have eX : X1' = X1 := by rw [hadv] at b1; exact (Option.some.inj b1).symm
  subst eX
  have hlt := b6 (by rw [r3.2 16 (by decide)]; omega)
  have f2 : fz [87, 102, 103, 104, 105] [14, 15, 16, 17, 29] Q Q2 := fz_tr r3 (fz_fs b10) (by decide) (by decide) (by decide) (by decide)
  have g18 : Q2 87 18 = 0 := by rw [f2.2 18 (by decide)]; exact h18
  have g28 : Q2 87 28 = nc := by rw [f2.2 28 (by decide)]; exact s6.2.1
  have g29 : Q2 87 29 = k := by rw [b10.2 29 (by decide)]; exact r4
  have hJ := q_J73 (Q1 := pm_ms Q 87 29 k) (Qs := Qs) (Q2 := Q2) (nc := nc) (k := k) (by rw [ms_nj _ _ _ _ (by omega)]; exact h18) (by rw [ms_nj _ _ _ _ (by omega)]; exact s6.2.1) hnc (by rw [ms_at]) (by rw [ms_nj Q 87 29 k (by omega)]; exact r1) b2 g29 g28
  have hpre := q_cl_pre h16 h17 (by omega) s6.2.1 hnc (fun z => by omega)
  have hx1 : X1' 66 1 = ((t0 + 1 : Nat) : Int) := by rw [b9.2 1 (by decide)]; exact s3.1
  obtain ⟨mx, hmx⟩ : ∃ mx : Nat, mxr k mx := by
    unfold mxr
    rcases (show k = 8 ∨ k = 5 ∨ (k = 6 ∨ k = 7) by omega) with e | e | e
    · exact ⟨99, Or.inl ⟨e, rfl⟩⟩
    · exact ⟨11, Or.inr (Or.inl ⟨e, rfl⟩)⟩
    · exact ⟨7, Or.inr (Or.inr ⟨e, rfl⟩)⟩
  have hm9 : mx ≤ 9999 := by unfold mxr at hmx; omega
  rcases b_num b3 b4 b5 g18 hm9 with ⟨X2, Q3, p2, c1, c2, c3, c4, c5, c6, c7, c8, c9⟩ | ⟨X2, Q3, c1, c2, c3, c4, c5, c6, c7⟩
  · -- the first number stands
    generalize hQa : pm_ms Q3 104 nc (X1' 66 4) = Qa
    have fa : fz [104] [] Q3 Qa := by rw [← hQa]; exact fz_c (by decide) (by decide)
    have f23 : fz [87, 104] [14, 15, 16, 17] Q2 Qa := fz_tr (fz_fs c9) fa (by decide) (by decide) (by decide) (by decide)
    have fQa : fz [87, 102, 103, 104, 105] [14, 15, 16, 17, 29] Q Qa := fz_tr f2 f23 (by decide) (by decide) (by decide) (by decide)
    have a29 : Qa 87 29 = k := by rw [f23.2 29 (by decide)]; exact g29
    have a28 : Qa 87 28 = nc := by rw [f23.2 28 (by decide)]; exact g28
    have a18 : Qa 87 18 = 0 := by rw [f23.2 18 (by decide)]; exact g18
    have hJ1 : f_Q_clause Q = if k = 5 ∨ k = 7 then f_Q_clause_J234 Qa else f_Q_clause_J295 Qa := by
      rw [hpre, hJ.1 (X1' 66 4) mx Q3 hmx c2 (by rw [hQa]; exact a29), hQa]
    have Ta : TPX X2 Qa N := by unfold TPX; rw [fa.1 90 (by decide), fa.2 13 (by decide)]; exact c3
    have Ka : TK N X2 Qa := TK_mo c4 rfl (fa.2 14 (by decide)) (fa.2 15 (by decide)) (fa.2 16 (by decide)) (fa.2 17 (by decide))
    have Ra : RS Qa 0 [] [] ql := RS_fz s4 fQa (by decide) (by decide) (by decide) (by decide) (by decide) (by decide) (by decide) (by decide) (by decide) (by decide)
    have pa : Qa 87 15 = ((p2 : Nat) : Int) := by rw [fa.2 15 (by decide)]; exact c5
    have m102 : Qa 102 = aS (Q 102) nc k := by rw [f23.1 102 (by decide), fs_o b10 (by omega)]; exact r5
    have m103 : Qa 103 = aS (Q 103) nc (ql.length : Int) := by rw [f23.1 103 (by decide), fs_o b10 (by omega)]; exact r6
    have m104 : Qa 104 = aS (aS (Q 104) nc (-1)) nc (X1' 66 4) := by rw [← hQa, msc, fs_o c9 (by omega), fs_o b10 (by omega), r7]
    have m105 : Qa 105 = aS (Q 105) nc (-1) := by rw [f23.1 105 (by decide), fs_o b10 (by omega)]; exact r8
    have gX2 : fs 66 [3, 4, 5, 6] X X2 := fs_tr b9 c8
    by_cases hkk : k = 5 ∨ k = 7
    · -- two numbers
      obtain ⟨w, hw⟩ : ∃ w : Int, (k = 5 ∧ w = 9) ∨ (k = 7 ∧ w = 10) := by
        rcases hkk with e | e
        · exact ⟨9, Or.inl ⟨e, rfl⟩⟩
        · exact ⟨10, Or.inr ⟨e, rfl⟩⟩
      have hwQ : (Qa 87 29 = 5 ∧ w = 9) ∨ (Qa 87 29 = 7 ∧ w = 10) := by rw [a29]; exact hw
      rw [if_pos hkk] at hJ1
      rw [x_deed2 hmx hw c1]
      have ew := ck_wd Ka (v := w) (by omega)
      by_cases h3 : X2 66 3 = w
      · have e := ew.mp h3
        obtain ⟨X3, Q4, p3, d1, d2, d3, d4, d5, d6, d7, d8, d9, d10⟩ := b_step Ta Ka pa
        have hlt3 := d6 (by omega)
        have k18 : Q4 87 18 = 0 := by rw [d10.2 18 (by decide)]; exact a18
        have k28 : Q4 87 28 = nc := by rw [d10.2 28 (by decide)]; exact a28
        rcases b_num (mx := 7) d3 d4 d5 k18 (by omega) with ⟨X4, Q5, p4, e1, e2, e3, e4, e5, e6, e7, e8, e9⟩ | ⟨X4, Q5, e1, e2, e3, e4, e5, e6, e7⟩
        · have e1 : f_Reader_numberUpTo 7 X3 = some (1, X4) := e1
          have e2 : f_Q_number 0 7 Q4 = some (X3 66 4, Q5) := e2
          generalize hQb : pm_ms Q5 105 nc (X3 66 4) = Qb
          have hJ2 : f_Q_clause Q = f_Q_clause_J295 Qb := by rw [hJ1, J234_y a18 hwQ e.1 e.2 d2 k28 hnc e2, hQb]
          have fb : fz [105] [] Q5 Qb := by rw [← hQb]; exact fz_c (by decide) (by decide)
          have f45 : fz [87] [14, 15, 16, 17] Qa Q5 := fz_tr (fz_fs d10) (fz_fs e9) (by decide) (by decide) (by decide) (by decide)
          have fab : fz [87, 105] [14, 15, 16, 17] Qa Qb := fz_tr f45 fb (by decide) (by decide) (by decide) (by decide)
          have gX4 : fs 66 [3, 4, 5, 6] X X4 := fs_tr gX2 (fs_tr d9 e8)
          have n18 : Qb 87 18 = 0 := by rw [fab.2 18 (by decide)]; exact a18
          obtain ⟨Xb, y, w1, w2, w3⟩ := fin_clause (t0 := t0) (N := N) (X := X) (Q := Q) (Xa := X4) (Qa := Qb) (k := k) (a := X1' 66 4) (b := X3 66 4) (l := []) (lq := []) (pend := []) (frs := []) (pa := p4) (c1 := 1) ht hS hnc (by omega)
            (gy_fs gX4 (by decide)) (gX4.2 7 (by decide)) (gX4.2 8 (by decide)) (by rw [show X4 t0 = X t0 from gy_c ht gX4 0 (by omega)]; exact s6.1) (fun i hi => by rw [Nat.add_assoc]; exact gy_c ht gX4 (1 + i) (by omega)) (by rw [List.append_nil]; exact XS_fs ht s3 gX4 (by decide)) rfl
            (by unfold TPX; rw [fb.1 90 (by decide), fb.2 13 (by decide)]; exact e3) (TK_mo e4 rfl (fb.2 14 (by decide)) (fb.2 15 (by decide)) (fb.2 16 (by decide)) (fb.2 17 (by decide))) (by rw [List.append_nil]; exact RS_fz Ra fab (by decide) (by decide) (by decide) (by decide) (by decide) (by decide) (by decide) (by decide) (by decide) (by decide)) ⟨by decide, fun c hc => by cases hc⟩ (by rw [fab.2 28 (by decide)]; exact a28) (by rw [fb.2 15 (by decide)]; exact e5) (by omega) (Nat.zero_le _) (fz_tr fQa fab (by decide) (by decide) (by decide) (by decide))
            (by rw [fab.1 102 (by decide)]; exact m102) (fun c hc => by rw [fab.1 103 (by decide), m103, aSn, if_neg (by omega)]) (by rw [fab.1 103 (by decide), m103, aSn, if_pos rfl]) (fun c hc => by rw [fab.1 104 (by decide), m104, aSn, if_neg (by omega), aSn, if_neg (by omega)]) (fun c hc => by rw [← hQb, msc, aSn, if_neg (by omega), f45.1 105 (by decide), m105, aSn, if_neg (by omega)])
            (fun _ => ⟨by rw [fab.1 104 (by decide), m104, aSn, if_pos rfl], by rw [← hQb, ms_at]⟩) (fun z => by omega) (by omega)
            (fun hs Q' he hq n => by rw [L_4 n h18 s5 (by omega), hJ2, J295_n n18 hs he hq, ob]) (fun hs Q' ho n => by rw [L_4 n h18 s5 (by omega), hJ2, J295_y n18 hs ho, ob])
          exact ⟨y, x_J53_2 ht hw (x_exp_y h3 d1) e1 (by rw [gX4.2 1 (by decide)]; exact s3.1) w1 w2 (yy_01 w3), w3⟩
        · have e1 : f_Reader_numberUpTo 7 X3 = some (0, X4) := e1
          have e2 : f_Q_number 0 7 Q4 = some (0, Q5) := e2
          generalize hQb : pm_ms Q5 105 nc 0 = Qb
          have fb : fz [105] [] Q5 Qb := by rw [← hQb]; exact fz_c (by decide) (by decide)
          have b18 : Qb 87 18 = X4 66 7 := by rw [fb.2 18 (by decide)]; exact e6
          have hJ2 : f_Q_clause Q = some Qb := by rw [hJ1, J234_y a18 hwQ e.1 e.2 d2 k28 hnc e2, hQb, J295_b (by omega)]
          refine ⟨(0, X4), x_J53_1 hw (x_exp_y h3 d1) e1, Or.inl (flc_mk h18 s5 (by omega) (gy_tr (gy_fs gX2 (by decide)) (gy_tr (gy_fs d9 (by decide)) (gy_fs e3 (by decide)))) e5 hJ2 b18 (by rw [fb.2 19 (by decide)]; exact e7) ?_)⟩
          exact fz_tr (C := CD) (S := SDF) (fz_tr (C := CD) (S := SDF) (fz_tr (C := CD) (S := SDF) fQa (fz_fs d10) (by decide) (by decide) (by decide) (by decide)) (fz_fs e4) (idm _) (idm _) (by decide) (by decide)) fb (idm _) (idm _) (by decide) (by decide)
      · obtain ⟨X3, d1, d2, d3, d4⟩ := x_exp_n h3
        obtain ⟨Q4, e1, e2, e3, e4⟩ := q_errs0 1 a18
        generalize hQb : pm_ms Q4 105 nc 0 = Qb
        have fb : fz [105] [] Q4 Qb := by rw [← hQb]; exact fz_c (by decide) (by decide)
        have hJ2 : f_Q_clause Q = some Qb := by rw [hJ1, J234_n a18 hwQ (fun z => h3 (ew.mpr z)) e1 (by omega) (by rw [e2.2 28 (by decide)]; exact a28) hnc, hQb]
        refine ⟨(0, X3), x_J53_0 hw d1, Or.inl (flc_mk h18 s5 (by omega) (gy_tr (gy_fs gX2 (by decide)) (gy_fs d2 (by decide))) (by omega) hJ2 (by rw [fb.2 18 (by decide), e3, d3]) (by rw [fb.2 19 (by decide), e4, d4, Ka.2.1]) ?_)⟩
        exact fz_tr (C := CD) (S := SDF) (fz_tr (C := CD) (S := SDF) fQa (fz_fs e2) (by decide) (by decide) (by decide) (by decide)) fb (idm _) (idm _) (by decide) (by decide)
    · -- one number
      rw [if_neg hkk] at hJ1
      obtain ⟨Xb, y, w1, w2, w3⟩ := fin_clause (t0 := t0) (N := N) (X := X) (Q := Q) (Xa := X2) (Qa := Qa) (k := k) (a := X1' 66 4) (b := -1) (l := []) (lq := []) (pend := []) (frs := []) (pa := p2) (c1 := 1) ht hS hnc (by omega)
        (gy_fs gX2 (by decide)) (gX2.2 7 (by decide)) (gX2.2 8 (by decide)) (by rw [show X2 t0 = X t0 from gy_c ht gX2 0 (by omega)]; exact s6.1) (fun i hi => by rw [Nat.add_assoc]; exact gy_c ht gX2 (1 + i) (by omega)) (by rw [List.append_nil]; exact XS_fs ht s3 gX2 (by decide)) rfl
        Ta Ka (by rw [List.append_nil]; exact Ra) ⟨by decide, fun c hc => by cases hc⟩ a28 pa (by omega) (Nat.zero_le _) (fz_mo fQa (by decide) (by decide))
        m102 (fun c hc => by rw [m103, aSn, if_neg (by omega)]) (by rw [m103, aSn, if_pos rfl]) (fun c hc => by rw [m104, aSn, if_neg (by omega), aSn, if_neg (by omega)]) (fun c hc => by rw [m105, aSn, if_neg (by omega)])
        (fun _ => ⟨by rw [m104, aSn, if_pos rfl], by rw [m105, aSn, if_pos rfl]⟩) (fun z => by omega) (by omega)
        (fun hs Q' he hq n => by rw [L_4 n h18 s5 (by omega), hJ1, J295_n a18 hs he hq, ob]) (fun hs Q' ho n => by rw [L_4 n h18 s5 (by omega), hJ1, J295_y a18 hs ho, ob])
      exact ⟨y, x_deed1 ht hmx (by omega) c1 (by rw [gX2.2 1 (by decide)]; exact s3.1) w1 w2 (yy_01 w3), w3⟩
  · -- the first number falls
    generalize hQa : pm_ms Q3 104 nc 0 = Qa
    have fa : fz [104] [] Q3 Qa := by rw [← hQa]; exact fz_c (by decide) (by decide)
    have fQ3 : fz CD SDF Q Q3 := fz_tr f2 (fz_fs c4) (by decide) (by decide) (by decide) (by decide)
    have a18 : Qa 87 18 = X2 66 7 := by rw [fa.2 18 (by decide)]; exact c6
    have a28 : Qa 87 28 = nc := by rw [fa.2 28 (by decide), c4.2 28 (by decide)]; exact g28
    have a29 : Qa 87 29 = k := by rw [fa.2 29 (by decide), c4.2 29 (by decide)]; exact g29
    have hJ1 : f_Q_clause Q = if k = 5 ∨ k = 7 then f_Q_clause_J234 Qa else f_Q_clause_J295 Qa := by
      rw [hpre, hJ.1 0 mx Q3 hmx c2 (by rw [hQa]; exact a29), hQa]
    refine ⟨(0, X2), x_deed0 hmx c1, Or.inl ?_⟩
    have hgy : gy t0 X X2 := gy_tr (gy_fs b9 (by decide)) (gy_fs c3 (by decide))
    have f3a : fz CD SDF Q Qa := fz_tr fQ3 fa (idm _) (idm _) (by decide) (by decide)
    by_cases hkk : k = 5 ∨ k = 7
    · rw [if_pos hkk, J234_b (by omega) a28 hnc] at hJ1
      refine flc_mk h18 s5 (by omega) hgy c5 hJ1 ?_ ?_ (fz_tr f3a (fz_c (C := [105]) (S := []) (by decide) (by decide)) (idm _) (idm _) (by decide) (by decide))
      · rw [ms_nc _ _ _ _ (by omega)]; exact a18
      · rw [ms_nc _ _ _ _ (by omega), fa.2 19 (by decide)]; exact c7
    · rw [if_neg hkk, J295_b (by omega)] at hJ1
      exact flc_mk h18 s5 (by omega) hgy c5 hJ1 a18 (by rw [fa.2 19 (by decide)]; exact c7) f3a
end
