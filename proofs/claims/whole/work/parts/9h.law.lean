/-! CLAUSES: laws, all clauses -/
section
variable {t0 N : Nat} {X Q : pm_M}
theorem TK_m2 {X' Q' : pm_M} (h : TK N X Q) (hx : ∀ j, j ≠ 2 → X' 66 j = X 66 j) (h14 : Q' 87 14 = Q 87 14) (h15 : Q' 87 15 = Q 87 15) (h16 : Q' 87 16 = Q 87 16) (h17 : Q' 87 17 = Q 87 17) : TK N X' Q' := by
  unfold TK
  rw [hx 3 (by omega), hx 4 (by omega), hx 5 (by omega), hx 6 (by omega), h14, h15, h16, h17]
  exact h
theorem gx_c {X' : pm_M} (ht : tx4 t0) (h : gx t0 X X') (i : Nat) (hi : i < 4) : X' (t0 + 1 + i) = X (t0 + 1 + i) := by
  unfold tx4 at ht
  refine h.1 _ (fun z => ?_)
  rcases List.mem_cons.mp z with e | z
  · omega
  · rcases List.mem_cons.mp z with e | z
    · omega
    · have := List.mem_singleton.mp z; omega
/-- a law -/
theorem s_law {nc p sb : Nat} {cl ql : List (Int × Int)} {k lv f st af : Int} {bb : Bool} {J : Int → Int → Prop} {P : List (Int × Int) → Prop} {C : List Nat} {X1 : pm_M} (ht : tx4 t0) (hS : CLS t0 N X Q nc cl ql p) (hnc : nc < 24) (h16 : Q 87 16 = 1) (h17 : Q 87 17 = k) (hk : 0 ≤ k ∧ k ≤ 4) (hto : ∀ c, c < nc → Q 102 c ≠ k) (hadv : f_Reader_advance X = some X1)
    (hfst : (k = 4 ∧ f = 2 ∧ st = 0) ∨ (k < 4 ∧ f = 1 ∧ st = 1)) (hSM : SM t0 N (fun X => f_rd 100 0 lv ((0 : Nat) : Int) X) (Ej af J) st P 0 [f] [] k bb C sb) (hbb : bb = decide (k = 4)) (hP : ∀ pend, P pend → Pw 1 2 1 pend) (hC : ∀ c ∈ C, c ∈ CC)
    (htu : ∀ (Q' : pm_M) (ws ql' : List (Int × Int)), RS Q' 0 [f] ws ql' → Q' 87 27 = af → J (Q' 87 16) (Q' 87 17) → (f_Q_isSign 59 Q' = some 0 → ∀ Q2, f_Q_errs 1 Q' = some Q2 → ∀ n, f_Q_text_L74 (n + 1) Q' = f_Q_text_L74 n Q2) ∧ (f_Q_isSign 59 Q' = some 1 → ∀ Q2, f_Q_clauseIsOver Q' = some Q2 → ∀ n, f_Q_text_L74 (n + 1) Q' = f_Q_text_L74 n Q2)) :
    ∃ X2, pm_ms X1 66 2 k = X2 ∧ X2 66 1 = ((t0 + 1 : Nat) : Int) ∧ X2 t0 6 = (cl.length : Int) ∧ ((∃ y, f_rd 100 0 lv 0 X2 = some y ∧ y.1 = 0 ∧ FLc t0 N X Q p y) ∨ (∃ Xa Xb y, f_rd 100 0 lv 0 X2 = some (1, Xa) ∧ Xa 66 1 = ((t0 + 1 : Nat) : Int) ∧ f_Text_addClause t0 k (cl.length : Int) (Xa t0 6) Xa = some Xb ∧ f_Reader_expect 34 Xb = some y ∧ (FLc t0 N X Q p y ∨ SUc t0 N X Q p y))) := by
  have hS' := hS
  obtain ⟨s1, s2, s3, s4, s5, s6, s7, s8, s9, s10, s11⟩ := hS'
  have h18 : Q 87 18 = 0 := s4.2.2.2.2.2.2.2.2
  obtain ⟨Qs, r1, r2, r3, r4, r5, r6, r7, r8⟩ := q_start (nc := nc) s4 k
  have T1 : TPX X Qs N := by unfold TPX; rw [r3.1 90 (by decide), r3.2 13 (by decide)]; exact s1
  have K1 : TK N X Qs := TK_mo s2 rfl (r3.2 14 (by decide)) (r3.2 15 (by decide)) (r3.2 16 (by decide)) (r3.2 17 (by decide))
  obtain ⟨X1', Q2, p1, b1, b2, b3, b4, b5, b6, b7, b8, b9, b10⟩ := b_step T1 K1 (p := p) (by rw [r3.2 15 (by decide)]; exact s8)
  have eX : X1' = X1 := by rw [hadv] at b1; exact (Option.some.inj b1).symm
  subst eX
  have hlt := b6 (by rw [r3.2 16 (by decide)]; omega)
  have f2 : fz [87, 102, 103, 104, 105] [14, 15, 16, 17, 29] Q Q2 := fz_tr r3 (fz_fs b10) (by decide) (by decide) (by decide) (by decide)
  have g28 : Q2 87 28 = nc := by rw [f2.2 28 (by decide)]; exact s6.2.1
  have g29 : Q2 87 29 = k := by rw [b10.2 29 (by decide)]; exact r4
  have hJ := q_J73 (Q1 := pm_ms Q 87 29 k) (Qs := Qs) (Q2 := Q2) (nc := nc) (k := k) (by rw [ms_nj _ _ _ _ (by omega)]; exact h18) (by rw [ms_nj _ _ _ _ (by omega)]; exact s6.2.1) hnc (by rw [ms_at]) (by rw [ms_nj Q 87 29 k (by omega)]; exact r1) b2 g29 g28
  have hpre := q_cl_pre h16 h17 (by omega) s6.2.1 hnc (fun _ => hto)
  have R2 : RS Q2 0 [] [] ql := RS_fz (C := [87]) (S := [14, 15, 16, 17]) r2 b10 (by decide) (by decide) (by decide) (by decide) (by decide) (by decide) (by decide) (by decide) (by decide) (by decide)
  obtain ⟨Q3, a1, a2, a3⟩ := q_frame R2 (by decide) f
  generalize hQ4 : pm_ms Q3 87 27 st = Q4
  have f34 : fz [87] [27] Q3 Q4 := by rw [← hQ4]; exact fz_87 (by decide) (by decide)
  have f24 : fz [87, 98] [21, 27] Q2 Q4 := fz_tr a3 f34 (by decide) (by decide) (by decide) (by decide)
  have fQ4 : fz CD SD Q Q4 := fz_tr f2 f24 (by decide) (by decide) (by decide) (by decide)
  have hcl : f_Q_clause Q = some Q4 := by rw [hpre, hJ.2 f st Q3 hfst a1 (by rw [a3.2 29 (by decide)]; exact g29), hQ4]
  have hL4 : ∀ n, f_Q_text_L74 (n + 1) Q = f_Q_text_L74 n Q4 := fun n => by rw [L_4 n h18 s5 (by omega), hcl, ob]
  have R4 : RS Q4 0 [f] [] ql := RS_fz (C := [87]) (S := [27]) a2 f34 (by decide) (by decide) (by decide) (by decide) (by decide) (by decide) (by decide) (by decide) (by decide) (by decide)
  have e29 : Q4 87 29 = k := by rw [f24.2 29 (by decide)]; exact g29
  have hx1 : X1' 66 1 = ((t0 + 1 : Nat) : Int) := by rw [b9.2 1 (by decide)]; exact s3.1
  generalize hX2 : pm_ms X1' 66 2 k = X2
  have gX2 : fs 66 [2] X1' X2 := by rw [← hX2]; exact fs_ms (by decide)
  have hgy2 : gy t0 X X2 := gy_tr (gy_fs b9 (by decide)) (gy_fs gX2 (by decide))
  have hXS2 : XS X2 t0 cl := XS_fs ht (XS_fs ht s3 b9 (by decide)) gX2 (by decide)
  have hY : SY t0 N X2 Q4 cl := by
    refine ⟨?_, TK_m2 b4 (fun j hj => gX2.2 j (by simp [hj])) (f24.2 14 (by decide)) (f24.2 15 (by decide)) (f24.2 16 (by decide)) (f24.2 17 (by decide)), hXS2, by rw [e29, ← hX2, ms_at]⟩
    unfold TPX; rw [f24.1 90 (by decide), f24.2 13 (by decide), fs_o gX2 (by omega), fs_o gX2 (by omega)]; exact b3
  refine ⟨X2, rfl, by rw [gX2.2 1 (by decide)]; exact hx1, hXS2.2.1, ?_⟩
  have hok := hSM X2 Q4 cl ql [] p1 hY R4 (by rw [← hQ4, ms_at]) e29 (by rw [f24.2 15 (by decide)]; exact b5) (by omega) (by omega) (Nat.zero_le _)
  obtain ⟨y, hy1, hy⟩ := hok
  have hy1 : f_rd 100 0 lv 0 X2 = some y := hy1
  rcases hy with hy | hy
  · obtain ⟨h1, h2, h3, c2, Q', h4, h5, h6, h7, h8, h9⟩ := hy
    have hsl := slk_le Q4
    refine Or.inl ⟨y, hy1, h1, h1, gy_tr hgy2 (gy_gx h2), c2 + 1, Q', by omega, fun n => ?_, h6, h7, h8, fz_tr fQ4 h9 (idm _) (by decide) (by decide) (by decide)⟩
    rw [← Nat.add_assoc, hL4, h5]
  · obtain ⟨u1, u2, u3, u4, lq, pend, Qa, c, p2, d1, d2, d3, d4, d5, d6, d7, d8, ⟨d9, dJ, dL⟩, d10⟩ := hy
    rw [List.append_nil] at d5
    have dC : fz CC SS Q4 Qa := fz_mo d10 hC (idm _)
    have htt := htu Qa _ _ d5 d9 dJ
    have elen : y.2 t0 6 = ((cl.length + (lq ++ zw pend).length : Nat) : Int) := by rw [d4.2.2.1.2.1, List.length_append]
    have v102 : Qa 102 = Qs 102 := by rw [dC.1 102 (by decide), f24.1 102 (by decide), fs_o b10 (by omega)]
    have v103 : Qa 103 = Qs 103 := by rw [dC.1 103 (by decide), f24.1 103 (by decide), fs_o b10 (by omega)]
    have v104 : Qa 104 = Qs 104 := by rw [dC.1 104 (by decide), f24.1 104 (by decide), fs_o b10 (by omega)]
    have v105 : Qa 105 = Qs 105 := by rw [dC.1 105 (by decide), f24.1 105 (by decide), fs_o b10 (by omega)]
    have hall : ∀ i, i < 4 → y.2 (t0 + 1 + i) = X (t0 + 1 + i) := fun i hi => by
      rw [gx_c ht u2 i hi, Nat.add_assoc, gy_c ht gX2 (1 + i) (by omega), gy_c ht b9 (1 + i) (by omega)]
    obtain ⟨Xb, z, w1, w2, w3⟩ := fin_clause (t0 := t0) (N := N) (X := X) (Q := Q) (Xa := y.2) (Qa := Qa) (k := k) (a := (cl.length : Int)) (b := y.2 t0 6) (l := lq ++ zw pend) (lq := lq) (pend := pend) (frs := [f]) (pa := p2) (c1 := 1 + c + 1) ht hS hnc (by omega)
      (gy_tr hgy2 (gy_gx u2)) (by rw [u3, gX2.2 7 (by decide), b9.2 7 (by decide)]) (by rw [u4, gX2.2 8 (by decide), b9.2 8 (by decide)]) (by rw [u2.2.1 5 (by decide), show X2 t0 = X1' t0 from gy_c ht gX2 0 (by omega), show X1' t0 = X t0 from gy_c ht b9 0 (by omega)]; exact s6.1) hall d4.2.2.1 rfl
      d4.1 d4.2.1 d5 (hP pend d7) (by rw [dC.2 28 (by decide), f24.2 28 (by decide)]; exact g28) d1 (by omega) (by rw [List.length_append, zw_len]; omega) (fz_tr fQ4 dC (idm _) (idm _) (by decide) (by decide))
      (by rw [v102]; exact r5) (fun c hc => by rw [v103, r6, aSn, if_neg (by omega)]) (by rw [v103, r6, aSn, if_pos rfl]) (fun c hc => by rw [v104, r7, aSn, if_neg (by omega)]) (fun c hc => by rw [v105, r8, aSn, if_neg (by omega)])
      (fun z => by omega) (fun _ => ⟨rfl, elen, by rw [← hbb]; exact d8, hto⟩) (by omega)
      (fun hs Q' he _ n => by rw [show n + (1 + c + 1) = (n + 1 + c) + 1 by omega, hL4, dL, htt.1 hs Q' he]) (fun hs Q' ho n => by rw [show n + (1 + c + 1) = (n + 1 + c) + 1 by omega, hL4, dL, htt.2 hs Q' ho])
    refine Or.inr ⟨y.2, Xb, z, ?_, ?_, w1, w2, w3⟩
    · rw [hy1, ← u1]
    · rw [u2.2.2.1, gX2.2 1 (by decide)]; exact hx1
/-- the turn behind a sum -/
theorem tu_sum {Q' : pm_M} {ws ql' : List (Int × Int)} (hR : RS Q' 0 [1] ws ql') (h27 : Q' 87 27 = 2) (hJ : J3 (Q' 87 16) (Q' 87 17)) : (f_Q_isSign 59 Q' = some 0 → ∀ Q2, f_Q_errs 1 Q' = some Q2 → ∀ n, f_Q_text_L74 (n + 1) Q' = f_Q_text_L74 n Q2) ∧ (f_Q_isSign 59 Q' = some 1 → ∀ Q2, f_Q_clauseIsOver Q' = some Q2 → ∀ n, f_Q_text_L74 (n + 1) Q' = f_Q_text_L74 n Q2) := by
  have h18 : Q' 87 18 = 0 := hR.2.2.2.2.2.2.2.2
  refine ⟨fun hs Q2 he n => ?_, fun hs Q2 ho n => ?_⟩
  · rw [L_2 n h18 h27, q_go65 hR (by decide) hJ]
    unfold f_Q_goesOn_J65 f_Q_goesOn_J116 f_Q_goesOn_J181
    rw [if_neg (by decide), if_neg (by decide), if_neg (by decide), if_pos rfl, hs, ob, if_pos rfl, he, ob, ob]
  · rw [L_2 n h18 h27, q_go65 hR (by decide) hJ]
    unfold f_Q_goesOn_J65 f_Q_goesOn_J116 f_Q_goesOn_J181
    rw [if_neg (by decide), if_neg (by decide), if_neg (by decide), if_pos rfl, hs, ob, if_neg (by decide), ho, ob, ob]
theorem tu_ask {Q' : pm_M} {ws ql' : List (Int × Int)} (hR : RS Q' 0 [2] ws ql') (h27 : Q' 87 27 = 3) (hJ : J0 (Q' 87 16) (Q' 87 17)) : (f_Q_isSign 59 Q' = some 0 → ∀ Q2, f_Q_errs 1 Q' = some Q2 → ∀ n, f_Q_text_L74 (n + 1) Q' = f_Q_text_L74 n Q2) ∧ (f_Q_isSign 59 Q' = some 1 → ∀ Q2, f_Q_clauseIsOver Q' = some Q2 → ∀ n, f_Q_text_L74 (n + 1) Q' = f_Q_text_L74 n Q2) := by
  have h18 : Q' 87 18 = 0 := hR.2.2.2.2.2.2.2.2
  have e : ∀ w : Int, w = 11 ∨ w = 12 → f_Q_isWord w Q' = some 0 := fun w hw => by
    unfold f_Q_isWord
    unfold J0 at hJ
    by_cases z : Q' 87 16 = 1
    · rw [if_pos z, if_neg (by omega)]
    · rw [if_neg z]
  have ea : f_Q_asksOn Q' = (f_Q_isSign 59 Q').bind fun r958 => if r958 = 0 then ((f_Q_errs 1 Q').bind fun M959 => some M959) else ((f_Q_clauseIsOver Q').bind fun M960 => some M960) := by
    unfold f_Q_asksOn
    rw [e 11 (Or.inl rfl), ob, if_pos rfl, e 12 (Or.inr rfl), ob, if_pos rfl, q_top hR (by decide), ob, if_pos rfl]
  refine ⟨fun hs Q2 he n => ?_, fun hs Q2 ho n => ?_⟩
  · rw [L_3 n h18 h27, ea, hs, ob, if_pos rfl, he, ob, ob]
  · rw [L_3 n h18 h27, ea, hs, ob, if_neg (by decide), ho, ob, ob]
/-- a clause -/
theorem s_clause {nc p : Nat} {cl ql : List (Int × Int)} (ht : tx4 t0) (hS : CLS t0 N X Q nc cl ql p) (h0 : Q 87 16 ≠ 0) : ∃ y, f_Reader_clause X = some y ∧ (FLc t0 N X Q p y ∨ SUc t0 N X Q p y) := by
  have hS' := hS
  obtain ⟨s1, s2, s3, s4, s5, s6, s7, s8, s9, s10, s11⟩ := hS'
  have h18 : Q 87 18 = 0 := s4.2.2.2.2.2.2.2.2
  have hto := t_or ht s3.1
  have s2' := s2
  obtain ⟨k1, k2, k3, k4, k5, k6, _⟩ := s2'
  have hsg := sg_ge (Q 87 17)
  -- a fault at the keyword
  have bad : ∀ (e : Int) (Q1 : pm_M), 0 < e → fz [87] [29] Q Q1 → (∀ Q2, f_Q_errs e Q1 = some Q2 → 0 < Q2 87 18 → f_Q_clause Q = some Q2) → ∃ X', f_Reader_fail e X = some (0, X') ∧ FLc t0 N X Q p (0, X') := by
    intro e Q1 he f1 hq
    obtain ⟨X', a1, a2, a3, a4⟩ := x_fail e X
    obtain ⟨Q2, b1, b2, b3, b4⟩ := q_errs0 (Q := Q1) e (by rw [f1.2 18 (by decide)]; exact h18)
    refine ⟨X', a1, flc_mk h18 s5 h0 (gy_fs a2 (by decide)) (by omega) (hq Q2 b1 (by omega)) (by rw [b3, a3]) (by rw [b4, a4, f1.2 15 (by decide), k2]) (fz_tr f1 (fz_fs b2) (by decide) (by decide) (by decide) (by decide))⟩
  by_cases hw : Q 87 16 = 1 ∧ Q 87 17 ≤ 8
  · obtain ⟨h16, h8⟩ := hw
    have hb := k5 h16
    have h3 : X 66 3 = Q 87 17 := by rw [k1, h16]; rfl
    generalize hk : Q 87 17 = k at *
    obtain ⟨kn, hkn⟩ : ∃ kn : Nat, k = kn := ⟨k.toNat, by omega⟩
    unfold f_Reader_clause
    rw [h3, if_pos h8, if_pos hto.1, hto.2]
    have f1 : fz [87] [29] Q (pm_ms Q 87 29 k) := fz_87 (by decide) (by decide)
    have j73 : ∀ Q2 : pm_M, 0 < Q2 87 18 → f_Q_clause_J73 Q2 = some Q2 := fun Q2 h => by
      unfold f_Q_clause_J73
      rw [if_neg (by omega)]
    have e29 : pm_ms Q 87 29 k 87 29 = k := ms_at _ _ _ _
    have e28 : pm_ms Q 87 29 k 87 28 = nc := by rw [ms_nj _ _ _ _ (by omega)]; exact s6.2.1
    have e102 : pm_ms Q 87 29 k 102 = Q 102 := ms_nc _ _ _ _ (by omega)
    -- told already
    by_cases htold : k ≤ 4 ∧ ∃ c : Nat, c < nc ∧ Q 102 c = k
    · obtain ⟨h4, c, hc, hck⟩ := htold
      have hcl : ∃ v : Int, f_Text_clauseOf t0 k X = some v ∧ v ≠ -1 := by
        unfold f_Text_clauseOf
        rw [if_neg (by omega), if_neg (by omega), if_pos (by omega)]
        refine ⟨_, rfl, ?_⟩
        rcases s7 kn (by omega) with ⟨_, z⟩ | ⟨c', l, a, b, a', b', _, z, _⟩
        · exact absurd (hck.trans hkn) (z c hc)
        · rw [hkn, tn_nat, z]; omega
      obtain ⟨v, hv1, hv2⟩ := hcl
      obtain ⟨X', a1, a2⟩ := bad 4 _ (by decide) f1 (fun Q2 he h => by
        unfold f_Q_clause
        rw [if_pos h16, hk, if_pos h8, pbd, e29, if_neg (by omega), q_told1 e28 s11 hc (by rw [e102]; exact hck), ob, if_neg (by decide), he, ob, j73 Q2 h])
      rw [hv1, ob, if_neg hv2, a1, ob, if_pos (Or.inl rfl)]
      exact ⟨_, rfl, Or.inl a2⟩
    · have hno : k ≤ 4 → ∀ c, c < nc → Q 102 c ≠ k := fun h4 c hc z => htold ⟨h4, c, hc, z⟩
      have hcl : f_Text_clauseOf t0 k X = some (-1) := by
        unfold f_Text_clauseOf
        rw [if_neg (by omega)]
        by_cases h5 : 5 ≤ k
        · rw [if_pos h5]
        · rw [if_neg h5, if_pos (by omega), hkn, tn_nat]
          rcases s7 kn (by omega) with ⟨z, _⟩ | ⟨c', l, a, b, a', b', z1, _, z3, _⟩
          · rw [z]
          · exact absurd (((z3 c' z1).mpr rfl).trans hkn.symm) (hno (by omega) c' z1)
      rw [hcl, ob, if_pos rfl, if_pos hto.1]
      unfold f_Text_isFull
      rw [s6.1]
      by_cases hfull : nc = 24
      · rw [if_neg (by omega), ob, if_neg (by decide)]
        obtain ⟨X', a1, a2⟩ := bad 6 _ (by decide) f1 (fun Q2 he h => by
          have eJ : f_Q_clause_J58 (pm_ms Q 87 29 k) = some Q2 := by
            unfold f_Q_clause_J58
            rw [e28, if_pos (by omega), he, ob, j73 Q2 h]
          unfold f_Q_clause
          rw [if_pos h16, hk, if_pos h8, pbd, e29]
          by_cases h4 : 4 < k
          · rw [if_pos h4]; exact eJ
          · rw [if_neg h4, q_told0 e28 s11 (by rw [e102]; exact hno (by omega)), ob, if_pos rfl]; exact eJ)
        rw [a1, ob, if_pos (Or.inl rfl)]
        exact ⟨_, rfl, Or.inl a2⟩
      · have hnc : nc < 24 := by omega
        obtain ⟨X1, Q1x, p1x, hadv, _⟩ := b_step s1 s2 s8
        rw [if_pos (by omega), ob, if_pos rfl, hadv, ob]
        by_cases h4 : k ≤ 4
        · rw [if_pos h4, pbd]
          by_cases hk4 : k = 4
          · obtain ⟨X2, w1, w2, w3, w4⟩ := s_law (lv := 0) (f := 2) (st := 0) (af := 3) (bb := true) (J := J0) (P := Pw 1 2 1) (C := CC) (sb := 0) ht hS hnc h16 hk (by omega) (hno h4) hadv (Or.inl ⟨hk4, rfl, rfl⟩) (s_either ht) (by rw [decide_eq_true hk4]) (fun _ h => h) (idm _) (fun Q' ws ql' h1 h2 h3 => tu_ask h1 h2 h3)
            have hto2 := t_or ht w2
            unfold f_Text_codeLength
            rw [w1, if_pos hto2.1, hto2.2, ob, w3, if_pos hk4]
            rcases w4 with ⟨y, v1, v2, v3⟩ | ⟨Xa, Xb, y, v1, v2, v3, v4, v5⟩
            · rw [v1, ob, if_pos v2]
              exact ⟨_, rfl, Or.inl (by rw [← v2]; exact v3)⟩
            · have hto3 := t_or ht v2
              rw [v1, ob, if_neg (by omega), if_pos hto3.1, if_pos hto3.1, hto3.2, ob, v3, ob, v4, ob, if_pos (yy_01 v5)]
              exact ⟨_, rfl, v5⟩
          · obtain ⟨X2, w1, w2, w3, w4⟩ := s_law (lv := 3) (f := 1) (st := 1) (af := 2) (bb := false) (J := J3) (P := Pw 3 2 1) (C := CA) (sb := 3) ht hS hnc h16 hk (by omega) (hno h4) hadv (Or.inr ⟨by omega, rfl, rfl⟩) (s_whole ht) (by rw [decide_eq_false hk4]) (fun pend h => ⟨h.1, fun c hc => ⟨(h.2 c hc).1, by have := (h.2 c hc).2; omega⟩⟩) CA_CC (fun Q' ws ql' h1 h2 h3 => tu_sum h1 h2 h3)
            have hto2 := t_or ht w2
            unfold f_Text_codeLength
            rw [w1, if_pos hto2.1, hto2.2, ob, w3, if_neg hk4]
            rcases w4 with ⟨y, v1, v2, v3⟩ | ⟨Xa, Xb, y, v1, v2, v3, v4, v5⟩
            · rw [v1, ob, if_pos v2]
              exact ⟨_, rfl, Or.inl (by rw [← v2]; exact v3)⟩
            · have hto3 := t_or ht v2
              rw [v1, ob, if_neg (by omega), if_pos hto3.1, if_pos hto3.1, hto3.2, ob, v3, ob, v4, ob, if_pos (yy_01 v5)]
              exact ⟨_, rfl, v5⟩
        · obtain ⟨y, v1, v2⟩ := s_deed ht hS hnc h16 hk (by omega) hadv
          rw [if_neg h4, v1, ob, if_pos (yy_01 v2)]
          exact ⟨_, rfl, v2⟩
  · have h3 : ¬ X 66 3 ≤ 8 := by
      rw [k1]; unfold ckd
      rw [if_neg h0]
      by_cases z1 : Q 87 16 = 1
      · rw [if_pos z1]; have := k5 z1; omega
      · rw [if_neg z1]
        by_cases z2 : Q 87 16 = 2
        · rw [if_pos z2]; omega
        · rw [if_neg z2]
          by_cases z3 : Q 87 16 = 3
          · rw [if_pos z3]; omega
          · rw [if_neg z3]; omega
    obtain ⟨X', a1, a2⟩ := bad 1 Q (by decide) (fz_rf _ _ _) (fun Q2 he h => by
      unfold f_Q_clause
      by_cases z : Q 87 16 = 1
      · rw [if_pos z, if_neg (fun z2 => hw ⟨z, z2⟩), he, ob]
      · rw [if_neg z, he, ob])
    unfold f_Reader_clause
    rw [if_neg h3, a1, ob, if_pos (Or.inl rfl)]
    exact ⟨_, rfl, Or.inl a2⟩
end
