/-! A WHOLE TEXT: both readers -/
section
variable {t0 N : Nat}
theorem s_read (ht : tx4 t0) : ∀ (n : Nat) (X Q : pm_M) (nc y2 p : Nat) (cl ql : List (Int × Int)), CLS t0 N X Q nc cl ql p → y2 ≤ p → N < n + p →
    (∃ X', f_Reader_read_L33 (n + 1) (y2 : Int) X = some (.inl X') ∧ gy t0 X X' ∧ ∃ (c : Nat) (Q' : pm_M), c ≤ 3 * (N - p) + 7 ∧ (∀ m, f_Q_text_L74 (m + c) Q = some Q') ∧ Q' 87 18 = X' 66 7 ∧ Q' 87 19 = X' 66 8 ∧ 0 < X' 66 7 ∧ fz CD SDF Q Q') ∨
    (∃ X', f_Reader_read_L33 (n + 1) (y2 : Int) X = some (.inr X') ∧ gy t0 X X' ∧ X' 66 7 = X 66 7 ∧ X' 66 8 = X 66 8 ∧ ∃ (c : Nat) (Q' : pm_M) (nc' p' : Nat) (cl' ql' : List (Int × Int)), c ≤ 3 * (N - p) + 7 ∧ (∀ m, f_Q_text_L74 (m + c) Q = some Q') ∧ CLS t0 N X' Q' nc' cl' ql' p' ∧ fz CD SD Q Q') := by
  intro n
  induction n with
  | zero =>
    intro X Q nc y2 p cl ql hS hy hn
    have := (p_le hS.2.1 hS.2.2.2.2.2.2.2.1).1
    omega
  | succ n ih =>
    intro X Q nc y2 p cl ql hS hy hn
    have hS' := hS
    obtain ⟨s1, s2, s3, s4, s5, s6, s7, s8, s9, s10, s11⟩ := hS'
    have h18 : Q 87 18 = 0 := s4.2.2.2.2.2.2.2.2
    have h300 := s1.2.1
    have hp := p_le s2 s8
    have e38 : X 66 3 = 38 ↔ Q 87 16 = 0 := by
      obtain ⟨k1, _, _, k4, k5, _⟩ := s2
      have hsg := sg_ge (Q 87 17)
      rw [k1]; unfold ckd
      by_cases z0 : Q 87 16 = 0
      · rw [if_pos z0]; exact ⟨fun _ => z0, fun _ => rfl⟩
      · rw [if_neg z0]
        by_cases z1 : Q 87 16 = 1
        · rw [if_pos z1]; have := k5 z1; omega
        · rw [if_neg z1]
          by_cases z2 : Q 87 16 = 2
          · rw [if_pos z2]; omega
          · rw [if_neg z2]
            by_cases z3 : Q 87 16 = 3
            · rw [if_pos z3]; omega
            · rw [if_neg z3]; omega
    rw [f_Reader_read_L33]
    by_cases h0 : Q 87 16 = 0
    · rw [if_pos (e38.mpr h0)]
      exact Or.inr ⟨X, rfl, gy_rf _ _, rfl, rfl, 1, Q, nc, p, cl, ql, by omega, fun m => L_end m h18 s5 h0, hS, fz_rf _ _ _⟩
    · rw [if_neg (fun z => h0 (e38.mp z)), if_neg (by have := hp.2 h0; omega)]
      obtain ⟨y, a1, a2⟩ := s_clause ht hS h0
      rw [a1, ob]
      rcases a2 with a2 | a2
      · obtain ⟨b1, b2, c, Q', b3, b4, b5, b6, b7, b8⟩ := a2
        rw [if_pos b1]
        exact Or.inl ⟨y.2, rfl, b2, c, Q', by omega, b4, b5, b6, b7, b8⟩
      · obtain ⟨b1, b2, b3, b4, nc1, cl1, ql1, Q1, c1, p1, d1, d2, d3, d4, d5⟩ := a2
        have hp1 := p_le d3.2.1 d3.2.2.2.2.2.2.2.1
        rw [if_neg (by omega), i_ad_eq (by omega), show (y2 : Int) + 1 = ((y2 + 1 : Nat) : Int) by omega]
        rcases ih y.2 Q1 nc1 (y2 + 1) p1 cl1 ql1 d3 (by omega) (by omega) with ⟨X', e1, e2, c, Q', e3, e4, e5, e6, e7, e8⟩ | ⟨X', e1, e2, e3, e4, c, Q', nc', p', cl', ql', e5, e6, e7, e8⟩
        · refine Or.inl ⟨X', e1, gy_tr b2 e2, c + c1, Q', by omega, fun m => ?_, e5, e6, e7, fz_tr d5 e8 (idm _) (by decide) (idm _) (idm _)⟩
          rw [← Nat.add_assoc, d4, e4]
        · refine Or.inr ⟨X', e1, gy_tr b2 e2, e3.trans b3, e4.trans b4, c + c1, Q', nc', p', cl', ql', by omega, fun m => ?_, e7, fz_tr d5 e8 (idm _) (idm _) (idm _) (idm _)⟩
          rw [← Nat.add_assoc, d4, e6]
theorem x_fill (u : Nat) : ∀ (k n q : Nat) (M : pm_M), q + k = 5 → k < n → (∀ j, j < q → M u j = -1) → ∃ M', f_Arrays_fill_t_L5 u 5 n (-1) (q : Int) 5 M = some M' ∧ (∀ j, j < 5 → M' u j = -1) ∧ fr [u] M M' := by
  intro k
  induction k with
  | zero =>
    intro n q M hq hn h
    obtain ⟨n, rfl⟩ : ∃ a, n = a + 1 := ⟨n - 1, by omega⟩
    rw [f_Arrays_fill_t_L5, if_pos (by omega)]
    exact ⟨M, rfl, fun j hj => h j (by omega), fr_rf _ _⟩
  | succ k ih =>
    intro n q M hq hn h
    obtain ⟨n, rfl⟩ : ∃ a, n = a + 1 := ⟨n - 1, by omega⟩
    rw [f_Arrays_fill_t_L5, if_neg (by omega), if_pos (by omega), tn_nat, pbd, i_ad_eq (by omega), show (q : Int) + 1 = ((q + 1 : Nat) : Int) by omega]
    obtain ⟨M', a1, a2, a3⟩ := ih n (q + 1) (pm_ms M u q (-1)) (by omega) (by omega) (fun j hj => by
      rw [msc, aSn]
      by_cases e : j = q
      · rw [if_pos e]
      · rw [if_neg e]; exact h j (by omega))
    exact ⟨M', a1, a2, fr_2 (fr_ms (by simp)) a3⟩
theorem x_clear (M : pm_M) (t0 : Nat) : ∃ M', f_Text_clear t0 M = some M' ∧ (∀ j, j < 5 → M' (t0 + 1 + 3) j = -1) ∧ M' t0 5 = 0 ∧ M' t0 6 = 0 ∧ fr [t0, t0 + 1 + 3] M M' := by
  obtain ⟨M1, a1, a2, a3⟩ := x_fill (t0 + 1 + 3) 5 pm_F 0 M (by omega) (by unfold pm_F; omega) (fun j hj => by omega)
  have a1 : f_Arrays_fill_t_L5 (t0 + 1 + 3) 5 pm_F (-1) 0 5 M = some M1 := a1
  unfold f_Text_clear f_Arrays_fill_t
  rw [a1, ob, ob, pbd, pbd]
  refine ⟨_, rfl, fun j hj => ?_, ?_, ?_, fr_2 (fr_2 (fr_mo a3 (by simp)) (fr_ms (by simp))) (fr_ms (by simp))⟩
  · rw [ms_nc _ _ _ _ (by omega), ms_nc _ _ _ _ (by omega)]; exact a2 j hj
  · rw [ms_nj _ _ _ _ (by omega), ms_at]
  · rw [ms_at]
/-- the reference's start of a text -/
def qz (M : pm_M) : pm_M := pm_ms (pm_ms (pm_ms (pm_ms (pm_ms (pm_ms (pm_ms (pm_ms (pm_ms (pm_ms (pm_ms M 87 13 (M 87 3)) 87 3 0) 87 14 0) 87 18 0) 87 19 (-1)) 87 20 0) 87 21 0) 87 24 0) 87 27 4) 87 28 0) 87 34 0
def SZ : List Nat := [3, 13, 14, 18, 19, 20, 21, 24, 27, 28, 34]
def SA : List Nat := [3, 13, 14, 15, 16, 17, 18, 19, 20, 21, 24, 27, 28, 29, 34]
theorem qz_fz (M : pm_M) : fz [87] SZ M (qz M) := by
  unfold qz
  refine fz_tr (fz_tr (fz_tr (fz_tr (fz_tr (fz_tr (fz_tr (fz_tr (fz_tr (fz_tr (fz_87 (C := [87]) (S := SZ) (by decide) (by decide)) (fz_87 (C := [87]) (S := SZ) (by decide) (by decide)) (idm _) (idm _) (idm _) (idm _)) (fz_87 (C := [87]) (S := SZ) (by decide) (by decide)) (idm _) (idm _) (idm _) (idm _)) (fz_87 (C := [87]) (S := SZ) (by decide) (by decide)) (idm _) (idm _) (idm _) (idm _)) (fz_87 (C := [87]) (S := SZ) (by decide) (by decide)) (idm _) (idm _) (idm _) (idm _)) (fz_87 (C := [87]) (S := SZ) (by decide) (by decide)) (idm _) (idm _) (idm _) (idm _)) (fz_87 (C := [87]) (S := SZ) (by decide) (by decide)) (idm _) (idm _) (idm _) (idm _)) (fz_87 (C := [87]) (S := SZ) (by decide) (by decide)) (idm _) (idm _) (idm _) (idm _)) (fz_87 (C := [87]) (S := SZ) (by decide) (by decide)) (idm _) (idm _) (idm _) (idm _)) (fz_87 (C := [87]) (S := SZ) (by decide) (by decide)) (idm _) (idm _) (idm _) (idm _)) (fz_87 (C := [87]) (S := SZ) (by decide) (by decide)) (idm _) (idm _) (idm _) (idm _)
theorem qz_v (M : pm_M) : qz M 87 13 = M 87 3 ∧ qz M 87 3 = 0 ∧ qz M 87 14 = 0 ∧ qz M 87 18 = 0 ∧ qz M 87 19 = -1 ∧ qz M 87 20 = 0 ∧ qz M 87 21 = 0 ∧ qz M 87 24 = 0 ∧ qz M 87 27 = 4 ∧ qz M 87 28 = 0 ∧ qz M 87 34 = 0 := by
  unfold qz
  refine ⟨?_, ?_, ?_, ?_, ?_, ?_, ?_, ?_, ?_, ?_, ?_⟩ <;> simp [pm_ms]
theorem b_read {M MQ : pm_M} (ht : tx4 t0) (hN : M 37 1 = N) (hN3 : N ≤ 300) (h3 : MQ 87 3 = N) (htp : ∀ k : Nat, k < N → M 38 k = (MQ 90 k) % 256 ∧ -128 ≤ MQ 90 k ∧ MQ 90 k < 128) :
    ∃ y, f_Reader_read t0 M = some y ∧ fr [66, t0, t0 + 1 + 0, t0 + 1 + 1, t0 + 1 + 2, t0 + 1 + 3, t0 + 5] M y.2 ∧ ∃ Q1 Q', f_Q_next (qz MQ) = some Q1 ∧ f_Q_text_L74 pm_F Q1 = some Q' ∧ fz CD SA MQ Q' ∧ Q' 87 3 = 0 ∧ Q' 87 18 = y.2 66 7 ∧ Q' 87 19 = y.2 66 8 ∧ ((y.1 = 0 ∧ 0 < y.2 66 7) ∨ (y.1 = 1 ∧ y.2 66 7 = 0 ∧ ∃ (nc p : Nat) (cl ql : List (Int × Int)), CLS t0 N y.2 Q' nc cl ql p)) := by
  obtain ⟨z13, z3, z14, z18, z19, z20, z21, z24, z27, z28, z34⟩ := qz_v MQ
  have zf := qz_fz MQ
  have ht' := ht
  unfold tx4 at ht'
  generalize qz MQ = Qz at *
  unfold f_Reader_read
  rw [pbd]
  generalize hX0 : pm_ms M 66 1 ((t0 : Int) + 1) = X0
  have g0 : fs 66 [1] M X0 := by rw [← hX0]; exact fs_ms (by decide)
  have e1 : X0 66 1 = ((t0 + 1 : Nat) : Int) := by rw [← hX0, ms_at]; omega
  have hto := t_or ht e1
  rw [if_pos hto.1, hto.2]
  obtain ⟨X1, a1, a2, a3, a4, a5⟩ := x_clear X0 t0
  rw [a1, ob, pbd, pbd, pbd]
  have e66 : X1 66 = X0 66 := a5 66 (by rcases ht' with e | e | e | e <;> subst e <;> decide)
  generalize hX4 : pm_ms (pm_ms (pm_ms X1 66 7 0) 66 8 (-1)) 66 6 0 = X4
  have g4 : fs 66 [6, 7, 8] X1 X4 := by
    rw [← hX4]
    exact fs_tr (fs_tr (fs_ms (by decide)) (fs_ms (by decide))) (fs_ms (by decide))
  have x6 : X4 66 6 = 0 := by rw [← hX4, ms_at]
  have x7 : X4 66 7 = 0 := by rw [← hX4, ms_nj _ _ _ _ (by omega), ms_nj _ _ _ _ (by omega), ms_at]
  have x8 : X4 66 8 = -1 := by rw [← hX4, ms_nj _ _ _ _ (by omega), ms_at]
  have x1 : X4 66 1 = ((t0 + 1 : Nat) : Int) := by rw [g4.2 1 (by decide), e66]; exact e1
  have hT : TPX X4 Qz N := by
    unfold TPX
    rw [zf.1 90 (by decide), z13, fs_o g4 (by omega), fs_o g4 (by omega), a5 37 (by rcases ht' with e | e | e | e <;> subst e <;> decide), a5 38 (by rcases ht' with e | e | e | e <;> subst e <;> decide), fs_o g0 (by omega), fs_o g0 (by omega)]
    exact ⟨hN, hN3, h3, htp⟩
  obtain ⟨X5, Q1, b1, b2, b3, ⟨p, b4, _⟩, b5, b6⟩ := b_next hT (i := 0) x6 z14 (by omega)
  rw [b1, ob]
  have f1 : fz [87] [14, 15, 16, 17] Qz Q1 := fz_fs b6
  have hc0 : ∀ i, i ≤ 5 → X5 (t0 + i) = X1 (t0 + i) := fun i hi => by rw [gy_c ht b5 i hi, gy_c ht g4 i hi]
  have hS : CLS t0 N X5 Q1 0 [] [] p := by
    refine ⟨TPX_fs hT b5 b6 (by decide), b3, ⟨by rw [b5.2 1 (by decide)]; exact x1, ?_, trivial⟩, ⟨?_, ?_, trivial, ?_, trivial, trivial, ?_, trivial, ?_⟩, ?_, ⟨?_, ?_, fun c hc => by omega⟩, fun L hL => Or.inl ⟨?_, fun c hc => by omega⟩, b4, Nat.zero_le _, Nat.zero_le _, Nat.zero_le _⟩
    · rw [show X5 t0 = X1 t0 from hc0 0 (by omega)]; exact a4
    · rw [f1.2 20 (by decide)]; exact z20
    · rw [f1.2 21 (by decide)]; exact z21
    · rw [f1.2 24 (by decide)]; exact z24
    · rw [f1.2 34 (by decide)]; exact z34
    · rw [f1.2 18 (by decide)]; exact z18
    · rw [f1.2 27 (by decide)]; exact z27
    · rw [show X5 t0 = X1 t0 from hc0 0 (by omega)]; exact a3
    · rw [f1.2 28 (by decide)]; exact z28
    · rw [show X5 (t0 + 1 + 3) = X1 (t0 + 1 + 3) from hc0 4 (by omega)]; exact a2 L hL
  have hg5 : fr [66, t0, t0 + 1 + 0, t0 + 1 + 1, t0 + 1 + 2, t0 + 1 + 3, t0 + 5] M X5 := fr_tr (fr_tr (fr_tr g0.1 a5 (S := [66, t0, t0 + 1 + 0, t0 + 1 + 1, t0 + 1 + 2, t0 + 1 + 3, t0 + 5]) (by simp) (by simp)) g4.1 (S := [66, t0, t0 + 1 + 0, t0 + 1 + 1, t0 + 1 + 2, t0 + 1 + 3, t0 + 5]) (fun _ h => h) (by simp)) b5.1 (fun _ h => h) (by simp)
  have y7 : X5 66 7 = 0 := by rw [b5.2 7 (by decide)]; exact x7
  have y8 : X5 66 8 = -1 := by rw [b5.2 8 (by decide)]; exact x8
  have fQ1 : fz [87] (15 :: 16 :: 17 :: SZ) MQ Q1 := fz_tr zf f1 (by decide) (by decide) (by decide) (by decide)
  rcases s_read ht 999999999 X5 Q1 0 0 p [] [] hS (Nat.zero_le _) (by omega) with ⟨X', c1, c2, c, Q', c3, c4, c5, c6, c7, c8⟩ | ⟨X', c1, c2, c3, c4, c, Q', nc', p', cl', ql', c5, c6, c7, c8⟩
  · have c1 : f_Reader_read_L33 pm_F 0 X5 = some (.inl X') := c1
    rw [c1, ob]
    refine ⟨(0, X'), rfl, fr_2 hg5 c2.1, Q1, Q', b2, ?_, fz_tr fQ1 c8 (by decide) (by decide) (by decide) (by decide), ?_, c5, c6, Or.inl ⟨rfl, c7⟩⟩
    · have := c4 (pm_F - c)
      rw [show pm_F - c + c = pm_F by unfold pm_F; omega] at this
      exact this
    · rw [c8.2 3 (by decide), f1.2 3 (by decide)]; exact z3
  · have c1 : f_Reader_read_L33 pm_F 0 X5 = some (.inr X') := c1
    rw [c1, ob]
    refine ⟨(1, X'), rfl, fr_2 hg5 c2.1, Q1, Q', b2, ?_, fz_tr fQ1 c8 (by decide) (by decide) (by decide) (by decide), ?_, ?_, ?_, Or.inr ⟨rfl, c3.trans y7, nc', p', cl', ql', c7⟩⟩
    · have := c6 (pm_F - c)
      rw [show pm_F - c + c = pm_F by unfold pm_F; omega] at this
      exact this
    · rw [c8.2 3 (by decide), f1.2 3 (by decide)]; exact z3
    · show Q' 87 18 = X' 66 7
      rw [c3, y7]; exact c7.2.2.2.1.2.2.2.2.2.2.2.2
    · show Q' 87 19 = X' 66 8
      rw [c4, y8, c8.2 19 (by decide), f1.2 19 (by decide)]; exact z19
end
