/-! SIGNS THAT OPEN: frames pushed and unwound -/
section
variable {t0 N : Nat} {X Q : pm_M}
theorem RS_pop {o : Nat} {f : Int} {frs : List Int} {ws ql : List (Int × Int)} {Q' : pm_M} (h : RS Q (o + 1) (f :: frs) ws ql) (h20 : Q' 87 20 = o) (h21 : Q' 87 21 = frs.length) (hf : fz [87] [20, 21] Q Q') : RS Q' o frs ws ql := by
  obtain ⟨_, _, h3, h4, h5, h6, h7, h8, h9⟩ := h
  refine ⟨h20, h21, ?_, ?_, ?_, ?_, ?_, ?_, ?_⟩
  · rw [hf.1 98 (by decide)]; exact h3.2
  · rw [hf.2 24 (by decide)]; exact h4
  · rw [hf.1 100 (by decide)]; exact h5
  · rw [hf.1 101 (by decide)]; exact h6
  · rw [hf.2 34 (by decide)]; exact h7
  · rw [hf.1 106 (by decide), hf.1 107 (by decide)]; exact h8
  · rw [hf.2 18 (by decide)]; exact h9
/-- a frame opened -/
theorem q_frame {o : Nat} {frs : List Int} {ws ql : List (Int × Int)} (h : RS Q o frs ws ql) (hl : frs.length < 40) (x : Int) : ∃ Q', f_Q_opensFrame x Q = some Q' ∧ RS Q' o (x :: frs) ws ql ∧ fz [87, 98] [21] Q Q' := by
  obtain ⟨h1, h2, h3, h4, h5, h6, h7, h8, h9⟩ := h
  unfold f_Q_opensFrame
  rw [h2, if_pos (by omega), tn_nat, pbd, pbd]
  have e1 : pm_ms Q 98 frs.length x 87 21 = frs.length := by rw [ms_nc _ _ _ _ (by omega)]; exact h2
  rw [e1, i_ad_eq (by omega)]
  generalize hQ : pm_ms (pm_ms Q 98 frs.length x) 87 21 ((frs.length : Int) + 1) = Q'
  have f : fz [87, 98] [21] Q Q' := by
    rw [← hQ]
    exact fz_tr (fz_c (C := [87, 98]) (S := [21]) (by decide) (by decide)) (fz_87 (C := [87, 98]) (S := [21]) (by decide) (by decide)) (by decide) (by decide) (by decide) (by decide)
  refine ⟨Q', rfl, ⟨by rw [f.2 20 (by decide)]; exact h1, ?_, ?_, by rw [f.2 24 (by decide)]; exact h4, by rw [f.1 100 (by decide)]; exact h5, by rw [f.1 101 (by decide)]; exact h6, by rw [f.2 34 (by decide)]; exact h7, by rw [f.1 106 (by decide), f.1 107 (by decide)]; exact h8, by rw [f.2 18 (by decide)]; exact h9⟩, f⟩
  · rw [← hQ, ms_at, List.length_cons]; omega
  · rw [← hQ, ms_nc _ 87 _ _ (a := 98) (by omega), msc]
    exact stk_push h3
/-- a sign that opens, both take it -/
theorem b_open {o p : Nat} {frs : List Int} {ws ql cl : List (Int × Int)} (ht : tx4 t0) (hY : SY t0 N X Q cl) (h : RS Q o frs ws ql) (hl : frs.length < 40) (ho : o < 8) (hp : Q 87 15 = p) (h16 : Q 87 16 ≠ 0) (x : Int) : ∃ X' Q' p', f_Reader_advance X = some X' ∧ f_Q_opensSign x Q = some (1, Q') ∧ SY t0 N X' Q' cl ∧ RS Q' (o + 1) (x :: frs) ws ql ∧ Q' 87 15 = ((p' : Nat) : Int) ∧ p < p' ∧ p' ≤ N ∧ Q' 87 27 = Q 87 27 ∧ Q' 87 29 = Q 87 29 ∧ gx t0 X X' ∧ X' 66 7 = X 66 7 ∧ X' 66 8 = X 66 8 ∧ fz CA SS Q Q' := by
  obtain ⟨y1, y2, y3, y4⟩ := hY
  have h' := h
  obtain ⟨h1, h2, h3, h4, h5, h6, h7, h8, h9⟩ := h'
  unfold f_Q_opensSign
  rw [h1, if_neg (by omega), i_ad_eq (by omega), pbd]
  generalize hQ1 : pm_ms Q 87 20 ((o : Int) + 1) = Q1
  have f1 : fz [87] [20] Q Q1 := by rw [← hQ1]; exact fz_87 (by decide) (by decide)
  have R1 : RS Q1 (o + 1) frs ws ql := ⟨by rw [← hQ1, ms_at]; omega, by rw [f1.2 21 (by decide)]; exact h2, by rw [f1.1 98 (by decide)]; exact h3, by rw [f1.2 24 (by decide)]; exact h4, by rw [f1.1 100 (by decide)]; exact h5, by rw [f1.1 101 (by decide)]; exact h6, by rw [f1.2 34 (by decide)]; exact h7, by rw [f1.1 106 (by decide), f1.1 107 (by decide)]; exact h8, by rw [f1.2 18 (by decide)]; exact h9⟩
  obtain ⟨Q2, a1, a2, a3⟩ := q_frame R1 hl x
  have f2 : fz [87, 98] [20, 21] Q Q2 := fz_tr f1 a3 (by decide) (by decide) (by decide) (by decide)
  have T2 : TPX X Q2 N := TPX_g y1 ht (gx_rf t0 X) f2 (by decide) (by decide)
  have K2 : TK N X Q2 := TK_mo y2 rfl (f2.2 14 (by decide)) (f2.2 15 (by decide)) (f2.2 16 (by decide)) (f2.2 17 (by decide))
  obtain ⟨X', Q3, p', b1, b2, b3, b4, b5, b6, b7, b8, b9, b10⟩ := b_step T2 K2 (p := p) (by rw [f2.2 15 (by decide)]; exact hp)
  rw [a1, ob, b2, ob]
  refine ⟨X', Q3, p', b1, rfl, ⟨b3, b4, XS_fs ht y3 b9 (by decide), ?_⟩, RS_fz (C := [87]) (S := [14, 15, 16, 17]) a2 b10 (by decide) (by decide) (by decide) (by decide) (by decide) (by decide) (by decide) (by decide) (by decide) (by decide), b5, b6 (by rw [f2.2 16 (by decide)]; exact h16), b8, ?_, ?_, gx_fs ht b9 (by decide) (by decide), b9.2 7 (by decide), b9.2 8 (by decide), fz_tr f2 (fz_fs b10) (by decide) (by decide) (by decide) (by decide)⟩
  · rw [b9.2 2 (by decide), b10.2 29 (by decide), f2.2 29 (by decide)]; exact y4
  · rw [b10.2 27 (by decide), f2.2 27 (by decide)]
  · rw [b10.2 29 (by decide), f2.2 29 (by decide)]
theorem em_21 {a b : Int} {Q' : pm_M} (h : f_Q_emits a b Q = some Q') : Q' 87 21 = Q 87 21 := by
  unfold f_Q_emits at h
  split at h
  · rw [pbd] at h
    split at h
    · rw [pbd, pbd] at h
      cases h
      rw [ms_nj _ _ _ _ (by omega), ms_nc _ _ _ _ (by omega), ms_nc _ _ _ _ (by omega)]
    · cases h
  · cases h
/-- unwinding does not ask for much fuel -/
theorem over_fuel : ∀ (F n m : Nat) (Q : pm_M), Q 87 21 = F → F ≤ 1000 → F < n → F < m → f_Q_oneIsOver_L0 n Q = f_Q_oneIsOver_L0 m Q := by
  intro F
  induction F with
  | zero =>
    intro n m Q h h1 hn hm
    obtain ⟨n, rfl⟩ : ∃ a, n = a + 1 := ⟨n - 1, by omega⟩
    obtain ⟨m, rfl⟩ : ∃ a, m = a + 1 := ⟨m - 1, by omega⟩
    rw [f_Q_oneIsOver_L0, f_Q_oneIsOver_L0]
    unfold f_Q_top
    rw [h, i_sb_eq (by omega), if_neg (by omega)]
    rfl
  | succ F ih =>
    intro n m Q h h1 hn hm
    obtain ⟨n, rfl⟩ : ∃ a, n = a + 1 := ⟨n - 1, by omega⟩
    obtain ⟨m, rfl⟩ : ∃ a, m = a + 1 := ⟨m - 1, by omega⟩
    rw [f_Q_oneIsOver_L0, f_Q_oneIsOver_L0]
    cases f_Q_top Q with
    | none => rfl
    | some v =>
      rw [ob, ob, pbd, pbd, pbd, pbd]
      by_cases h7 : v = 7
      · rw [if_pos h7, if_pos h7]
        generalize hQ1 : pm_ms (pm_ms Q 87 21 (i_sb (Q 87 21) 1)) 87 20 (i_sb (pm_ms Q 87 21 (i_sb (Q 87 21) 1) 87 20) 1) = Q1
        have e21 : Q1 87 21 = F := by rw [← hQ1, ms_nj _ _ _ _ (by omega), ms_at, h, i_sb_eq (by omega)]; omega
        cases he : f_Q_emits 402 0 Q1 with
        | none => rfl
        | some Q2 =>
          rw [ob, ob]
          exact ih n m Q2 (by rw [em_21 he]; exact e21) (by omega) (by omega) (by omega)
      · rw [if_neg h7, if_neg h7]
theorem q_top {o : Nat} {f : Int} {frs : List Int} {ws ql : List (Int × Int)} (h : RS Q o (f :: frs) ws ql) (hl : frs.length < 40) : f_Q_top Q = some f := by
  unfold f_Q_top
  rw [h.2.1, List.length_cons, i_sb_eq (by omega), show ((frs.length + 1 : Nat) : Int) - 1 = frs.length by omega, if_pos (by omega), tn_nat, h.2.2.1.1]
/-- one frame of a minus unwound -/
theorem q_over7 {o : Nat} {frs : List Int} {ws ql : List (Int × Int)} (h : RS Q (o + 1) (7 :: frs) ws ql) (hl : frs.length < 40) (ho : o < 9) (hq : ql.length < 400) : ∃ Q', f_Q_oneIsOver Q = f_Q_oneIsOver Q' ∧ RS Q' o frs ws (ql ++ [(402, 0)]) ∧ fz [87, 106, 107] [20, 21, 34] Q Q' := by
  generalize hQ1 : pm_ms (pm_ms Q 87 21 (i_sb (Q 87 21) 1)) 87 20 (i_sb (pm_ms Q 87 21 (i_sb (Q 87 21) 1) 87 20) 1) = Q1
  have f1 : fz [87] [20, 21] Q Q1 := by
    rw [← hQ1]
    exact fz_tr (fz_87 (C := [87]) (S := [20, 21]) (by decide) (by decide)) (fz_87 (C := [87]) (S := [20, 21]) (by decide) (by decide)) (by decide) (by decide) (by decide) (by decide)
  have R1 : RS Q1 o frs ws ql := RS_pop h (by rw [← hQ1, ms_at, ms_nj _ _ _ _ (by omega), h.1, i_sb_eq (by omega)]; omega) (by rw [← hQ1, ms_nj _ _ _ _ (by omega), ms_at, h.2.1, List.length_cons, i_sb_eq (by omega)]; omega) f1
  obtain ⟨Q2, a1, a2, a3⟩ := q_emits R1 hq 402 0
  refine ⟨Q2, ?_, a2, fz_tr f1 a3 (by decide) (by decide) (by decide) (by decide)⟩
  unfold f_Q_oneIsOver
  have e : f_Q_oneIsOver_L0 pm_F Q = f_Q_oneIsOver_L0 pm_F Q2 := by
    rw [over_fuel (frs.length + 1) pm_F (frs.length + 1 + 1) Q (by rw [h.2.1]; rfl) (by omega) (by unfold pm_F; omega) (by omega), f_Q_oneIsOver_L0, q_top h hl, ob, if_pos rfl, pbd, pbd, hQ1, a1, ob]
    exact over_fuel frs.length _ _ Q2 a2.2.1 (by omega) (by omega) (by unfold pm_F; omega)
  rw [e]
end
