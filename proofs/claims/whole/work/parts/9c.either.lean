/-! ALL ASKS, BOTH, EITHER -/
section
variable {t0 N : Nat} {X Q : pm_M}
theorem s_asks {L : Int} (ht : tx4 t0) : ∀ (e o K : Nat) (frs : List Int) (ws : List (Int × Int)), o + e = 8 → 5 * e + 6 ≤ K → frs.length ≤ o + 1 → (∀ c ∈ ws, c.2 ≤ (frs.length : Int)) → ws.length ≤ 2 → SM t0 N (fun X => f_rd K 2 (o : Int) 0 X) E3 0 (fun pend => pend = []) o frs ws L true CC 2 := by
  intro e
  induction e with
  | zero =>
    intro o K frs ws he hK hf hwd hwl
    obtain ⟨K, rfl⟩ : ∃ a, K = a + 1 := ⟨K - 1, by omega⟩
    intro X Q cl ql s p hY hR h27 h29 hp hcl hql hs
    show ok (f_Reader_ask (f_rd K) o X) _
    by_cases hn : Q 87 16 = 1 ∧ Q 87 17 = 13
    · have e8 : o = 8 := by omega
      subst e8
      exact ok_mono (s_notd ht hY hR h27 hp hn.1 hn.2 hcl) (fun y h => Or.inl h)
    · refine s_cmp (sb := 2) ht (by omega) (by omega) hwd (by omega) (fun f hf' => ?_) hY hR h27 h29 hp hn hcl hql hs
      exact SM_mo (s_sums ht (by omega) (by omega) (by omega) (by omega) ws (bar_up hwd) (fun c hc => by have := hwd c hc; rw [List.length_cons]; omega) (by omega)) (by omega)
  | succ e ih =>
    intro o K frs ws he hK hf hwd hwl
    obtain ⟨K, rfl⟩ : ∃ a, K = a + 1 := ⟨K - 1, by omega⟩
    intro X Q cl ql s p hY hR h27 h29 hp hcl hql hs
    show ok (f_Reader_ask (f_rd K) o X) _
    by_cases hn : Q 87 16 = 1 ∧ Q 87 17 = 13
    · exact s_not ht (by omega) (by omega) (by omega) (ih (o + 1) K (3 :: frs) ws (by omega) (by omega) (by rw [List.length_cons]; omega) (fun c hc => by have := hwd c hc; rw [List.length_cons]; omega) hwl) hY hR h27 h29 hp hn.1 hn.2 hcl hql hs
    · refine s_cmp (sb := 2) ht (by omega) (by omega) hwd (by omega) (fun f hf' => ?_) hY hR h27 h29 hp hn hcl hql hs
      exact SM_mo (s_sums ht (by omega) (by omega) (by omega) (by omega) ws (bar_up hwd) (fun c hc => by have := hwd c hc; rw [List.length_cons]; omega) (by omega)) (by omega)
theorem q_onW {x v : Int} (h16 : Q 87 16 = 1) (h17 : Q 87 17 = v) (hv : (v = 12 ∧ x = 406) ∨ (v = 11 ∧ x = 407)) : f_Q_asksOn Q = (f_Q_waitsFor x Q).bind fun M => some (pm_ms M 87 27 0) := by
  unfold f_Q_asksOn f_Q_isWord
  rw [if_pos h16, h17]
  rcases hv with ⟨e1, e2⟩ | ⟨e1, e2⟩
  · subst e1 e2
    rw [if_neg (by decide), ob, if_pos rfl, if_pos h16, if_pos rfl, ob, if_neg (by decide), ob, if_pos rfl]
    rfl
  · subst e1 e2
    rw [if_pos rfl, ob, if_neg (by decide), ob, if_neg (by decide)]
    rfl
theorem jn1 {o : Nat} {frs : List Int} : JN N 1 2 0 3 true JT J1 o frs := by
  intro X Q ws ql hK hR h27 _
  have e12 := ck_wd hK (v := 12) (by omega)
  have h18 : Q 87 18 = 0 := hR.2.2.2.2.2.2.2.2
  have hj : f_Reader_joins 1 X = if X 66 3 = 12 then some 1 else some 0 := rfl
  rw [hj]
  by_cases z : Q 87 16 = 1 ∧ Q 87 17 = 12
  · have e : X 66 3 = 12 := e12.mpr z
    rw [e, if_pos rfl]
    exact Or.inr ⟨406, rfl, by decide, by decide, by decide, by omega, Or.inr ⟨rfl, by unfold isB; omega⟩, fun n => by rw [L_3 n h18 h27, q_onW (x := 406) z.1 z.2 (by omega)]⟩
  · rw [if_neg (fun e => z (e12.mp e))]
    exact Or.inl ⟨rfl, z⟩
theorem jn0 {o : Nat} {frs : List Int} : JN N 0 1 0 3 true J1 J0 o frs := by
  intro X Q ws ql hK hR h27 hJ
  have e12 := ck_wd hK (v := 11) (by omega)
  have h18 : Q 87 18 = 0 := hR.2.2.2.2.2.2.2.2
  have hj : f_Reader_joins 0 X = if X 66 3 = 11 then some 1 else some 0 := rfl
  rw [hj]
  by_cases z : Q 87 16 = 1 ∧ Q 87 17 = 11
  · have e : X 66 3 = 11 := e12.mpr z
    rw [e, if_pos rfl]
    exact Or.inr ⟨407, rfl, by decide, by decide, by decide, by omega, Or.inr ⟨rfl, by unfold isB; omega⟩, fun n => by rw [L_3 n h18 h27, q_onW (x := 407) z.1 z.2 (by omega)]⟩
  · rw [if_neg (fun e => z (e12.mp e))]
    exact Or.inl ⟨rfl, by unfold J0; unfold J1 at hJ; omega⟩
theorem s_part2 {o k sb : Nat} {f : Int} {frs : List Int} {ws : List (Int × Int)} {L : Int} (hl : frs.length < 40) (hf : f ≠ 3) (h : SM t0 N (fun X => f_rd k 2 (o : Int) 0 X) E3 0 (fun pend => pend = []) o (f :: frs) ws L true CC sb) : SM t0 N (fun X => f_rd (k + 1) 1 2 (o : Int) X) (Ej 3 JT) 0 (Pw 3 0 (f :: frs).length) o (f :: frs) ws L true CC sb := by
  have h' : SM t0 N (fun X => f_rd (k + 1) 1 2 (o : Int) X) E3 0 (fun pend => pend = []) o (f :: frs) ws L true CC sb := SM_wr h (fun X => rfl)
  intro X Q cl ql s p h1 h2 h3 h4 h5 h6 h7 h8
  refine ok_mono (h' X Q cl ql s p h1 h2 h3 h4 h5 h6 h7 h8) (fun y hy => ?_)
  rcases hy with hy | hy
  · exact Or.inl hy
  · obtain ⟨u1, u2, u3, u4, lq, pend, Q', c, p', d1, d2, d3, d4, d5, d6, d7, d8, d9, d10⟩ := hy
    have d7 : pend = [] := d7
    have eo := q_aover_n d5 hl hf
    generalize hQ2 : pm_ms Q' 87 27 3 = Q2 at eo
    have f2 : fz [87] [27] Q' Q2 := by rw [← hQ2]; exact fz_87 (by decide) (by decide)
    refine Or.inr ⟨u1, u2, u3, u4, lq, pend, Q2, c, p', by rw [f2.2 15 (by decide)]; exact d1, d2, d3, ⟨?_, ?_, d4.2.2.1, ?_⟩, ?_, d6, ⟨by rw [d7]; exact Nat.le_refl _, fun z hz => by rw [d7] at hz; cases hz⟩, d8, ⟨by rw [← hQ2, ms_at], trivial, fun n => ?_⟩, ?_⟩
    · unfold TPX; rw [f2.1 90 (by decide), f2.2 13 (by decide)]; exact d4.1
    · exact TK_mo d4.2.1 rfl (f2.2 14 (by decide)) (f2.2 15 (by decide)) (f2.2 16 (by decide)) (f2.2 17 (by decide))
    · rw [f2.2 29 (by decide)]; exact d4.2.2.2
    · exact RS_fz (C := [87]) (S := [27]) d5 f2 (by decide) (by decide) (by decide) (by decide) (by decide) (by decide) (by decide) (by decide) (by decide) (by decide)
    · rw [d9, eo, ob]
    · exact fz_tr d10 f2 (idm _) (idm _) (by decide) (by decide)
/-- a whole question -/
theorem s_either {L : Int} (ht : tx4 t0) : SM t0 N (fun X => f_rd 100 0 0 ((0 : Nat) : Int) X) (Ej 3 J0) 0 (Pw 1 2 1) 0 [2] [] L true CC 0 := by
  refine s_joined (frs := [2]) (k := 99) (d := 1) (wb := 0) (Jc := J1) ht (by omega) (by decide) (idm _) (by omega) (by omega) jn0 ?_ [] trivial (fun c hc => by cases hc) (by decide)
  intro ws2 hb2 hwd2 hwl2
  have h4 : SM t0 N (fun X => f_rd 98 0 1 ((0 : Nat) : Int) X) (Ej 3 J1) 0 (Pw 2 1 1) 0 [2] ws2 L true CC 1 := by
    refine s_joined (frs := [2]) (k := 97) (d := 0) (wb := 1) (Jc := JT) ht (by omega) (by decide) (idm _) (by omega) (by omega) jn1 ?_ ws2 hb2 hwd2 hwl2
    intro ws3 hb3 hwd3 hwl3
    exact s_part2 (by decide) (by decide) (s_asks ht 8 0 96 [2] ws3 (by omega) (by omega) (by decide) hwd3 hwl3)
  exact SM_wr h4 (fun X => rfl)
/-- a whole sum -/
theorem s_whole {L : Int} (ht : tx4 t0) : SM t0 N (fun X => f_rd 100 0 3 ((0 : Nat) : Int) X) (Ej 2 J3) 1 (Pw 3 2 1) 0 [1] [] L false CA 3 :=
  s_sums (frs := []) ht (by omega) (by omega) (by decide) (by decide) [] trivial (fun c hc => by cases hc) (by decide)
end
