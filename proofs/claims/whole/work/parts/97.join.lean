/-! JOINED: a joiner waits -/
section
variable {t0 N : Nat} {X Q : pm_M}
theorem q_push {o : Nat} {frs : List Int} {ws ql : List (Int × Int)} (h : RS Q o frs ws ql) (hl : ws.length < 80) (x : Int) : ∃ Q', pm_ms (pm_ms (pm_ms Q 100 ws.length x) 101 ws.length frs.length) 87 24 ((ws.length : Int) + 1) = Q' ∧ RS Q' o frs ((x, (frs.length : Int)) :: ws) ql ∧ fz [87, 100, 101] [24] Q Q' := by
  obtain ⟨h1, h2, h3, h4, h5, h6, h7, h8, h9⟩ := h
  generalize hQ : pm_ms (pm_ms (pm_ms Q 100 ws.length x) 101 ws.length frs.length) 87 24 ((ws.length : Int) + 1) = Q'
  have f : fz [87, 100, 101] [24] Q Q' := by
    rw [← hQ]
    exact fz_tr (fz_tr (C := [87, 100, 101]) (S := [24]) (fz_c (C := [87, 100, 101]) (S := [24]) (by decide) (by decide)) (fz_c (C := [87, 100, 101]) (S := [24]) (by decide) (by decide)) (by decide) (by decide) (by decide) (by decide)) (fz_87 (C := [87, 100, 101]) (S := [24]) (by decide) (by decide)) (by decide) (by decide) (by decide) (by decide)
  refine ⟨Q', rfl, ⟨by rw [f.2 20 (by decide)]; exact h1, by rw [f.2 21 (by decide)]; exact h2, by rw [f.1 98 (by decide)]; exact h3, ?_, ?_, ?_, by rw [f.2 34 (by decide)]; exact h7, by rw [f.1 106 (by decide), f.1 107 (by decide)]; exact h8, by rw [f.2 18 (by decide)]; exact h9⟩, f⟩
  · rw [← hQ, ms_at, List.length_cons]; omega
  · rw [← hQ, ms_nc _ 87 _ _ (a := 100) (by omega), ms_nc _ 101 _ _ (a := 100) (by omega), msc, List.map_cons]
    have := stk_push (x := x) h5
    rw [List.length_map] at this
    exact this
  · rw [← hQ, ms_nc _ 87 _ _ (a := 101) (by omega), msc, ms_nc _ 100 _ _ (a := 101) (by omega), List.map_cons]
    have := stk_push (x := (frs.length : Int)) h6
    rw [List.length_map] at this
    exact this
/-- what waits is flushed, the joiner waits, the next token comes -/
theorem q_waits {o : Nat} {frs : List Int} {pend ws ql : List (Int × Int)} {x : Int} (h : RS Q o frs (pend ++ ws) ql) (hb : bar (rkq x) frs.length ws) (hw : (pend ++ ws).length < 80) (hq : ql.length + pend.length ≤ 400) (hp : ∀ c ∈ pend, c.2 = (frs.length : Int) ∧ rkq x ≤ rkq c.1) : ∃ Q', f_Q_waitsFor x Q = (f_Q_next Q').bind (fun M => some M) ∧ RS Q' o frs ((x, (frs.length : Int)) :: ws) (ql ++ zw pend) ∧ fz [87, 100, 101, 106, 107] [24, 34] Q Q' := by
  obtain ⟨Q1, a1, a2, a3⟩ := q_works h hb (by omega) hq hp
  have hl : ws.length < 80 := by rw [List.length_append] at hw; omega
  obtain ⟨Q2, b1, b2, b3⟩ := q_push a2 hl x
  refine ⟨Q2, ?_, b2, fz_tr a3 b3 (by decide) (by decide) (by decide) (by decide)⟩
  have h24 : Q1 87 24 = ws.length := a2.2.2.2.1
  have h21 : Q1 87 21 = frs.length := a2.2.1
  unfold f_Q_waitsFor
  rw [q_rank, ob, a1, ob, h24, if_pos (by omega), tn_nat, pbd]
  rw [ms_nc Q1 100 ws.length x (a := 87) (by omega), h24, h21, if_pos (by omega), tn_nat, pbd, pbd]
  rw [ms_nc (pm_ms Q1 100 ws.length x) 101 ws.length (frs.length : Int) (a := 87) (by omega), ms_nc Q1 100 ws.length x (a := 87) (by omega), h24, i_ad_eq (by omega), b1]
end
