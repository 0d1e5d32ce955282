/-! ONE: minus and brackets -/
section
variable {t0 N : Nat} {X Q : pm_M}
theorem fls_pre0 {X1 Q1 : pm_M} {p p1 c : Nat} {y : Int × pm_M} (hL : ∀ n, f_Q_text_L74 (n + c) Q = f_Q_text_L74 n Q1) (hg : gx t0 X X1) (hf : fz CC SS Q Q1) (hc : c + slk Q1 ≤ 3 * (p1 - p) + slk Q) (hp : p ≤ p1) (hpN : p1 ≤ N) (h : FLS t0 N X1 Q1 p1 y) : FLS t0 N X Q p y := by
  obtain ⟨h1, h2, h3, c2, Q', h4, h5, h6, h7, h8, h9⟩ := h
  refine ⟨h1, gx_tr hg h2, h3, c2 + c, Q', by omega, fun n => ?_, h6, h7, h8, fz_tr hf h9 (fun _ h => h) (by decide) (fun _ h => h) (fun _ h => h)⟩
  rw [← Nat.add_assoc, hL, h5]
theorem fls_pre {X1 Q1 : pm_M} {p p1 c : Nat} {y : Int × pm_M} (hL : ∀ n, f_Q_text_L74 (n + c) Q = f_Q_text_L74 n Q1) (hg : gx t0 X X1) (hf : fz CC SS Q Q1) (hc : c + 1 ≤ 3 * (p1 - p)) (hp : p ≤ p1) (hpN : p1 ≤ N) (h : FLS t0 N X1 Q1 p1 y) : FLS t0 N X Q p y :=
  fls_pre0 hL hg hf (by have := slk_le Q1; omega) hp hpN h
theorem fls_post {p : Nat} {y : Int × pm_M} (ht : tx4 t0) (h : FLS t0 N X Q p y) (x : Int) : ∃ X', f_Reader_emit x y.2 = some X' ∧ FLS t0 N X Q p (0, X') := by
  obtain ⟨h1, h2, h3, c2, Q', h4, h5, h6, h7, h8, h9⟩ := h
  obtain ⟨X', a1, a2, a3, a4⟩ := x_emit0 ht h3 x
  refine ⟨X', a1, rfl, gx_tr h2 a3, a2, c2, Q', h4, h5, ?_, ?_, ?_, h9⟩
  · show Q' 87 18 = X' 66 7
    rw [a4]; exact h6
  · show Q' 87 19 = X' 66 8
    rw [a4]; exact h7
  · show 0 < X' 66 7
    rw [a4]; exact h8
theorem CA_CC : ∀ k ∈ CA, k ∈ CC := by decide
theorem idm (S : List Nat) : ∀ k ∈ S, k ∈ S := fun _ h => h
/-- a minus -/
theorem s_minus {o k sb : Nat} {frs : List Int} {ws : List (Int × Int)} {L : Int} (ht : tx4 t0) (hl : frs.length < 40) (ho : o < 8) (hsb : sb ≤ 39) (IH : SM t0 N (fun X => f_rd k 3 ((o + 1 : Nat) : Int) 0 X) E1 1 (fun pend => pend = []) (o + 1) (7 :: frs) ws L false CA sb)
    {p : Nat} {cl ql : List (Int × Int)} {s : List Bool} (hY : SY t0 N X Q cl) (hR : RS Q o frs ws ql) (h27 : Q 87 27 = 1) (h29 : Q 87 29 = L) (hp : Q 87 15 = p) (h16 : Q 87 16 = 3) (h17 : Q 87 17 = 45) (hcl : cl.length ≤ p) (hql : ql.length ≤ p + 24) (hs : s.length ≤ sb) : ok (f_Reader_one (f_rd k) o X) (fun y => FLS t0 N X Q p y ∨ SUC t0 N E1 (fun pend => pend = []) o frs ws cl ql L false CA s X Q p y) := by
  have h3 : X 66 3 = 29 := by rw [hY.2.1.1, h16, h17]; rfl
  have h300 := hY.1.2.1
  have h18 : Q 87 18 = 0 := hR.2.2.2.2.2.2.2.2
  obtain ⟨X1, Q1, p1, a1, a2, a3, a4, a5, a6, a7, a8, a9, a10, a11, a12, a13⟩ := b_open ht hY hR hl ho hp (by omega) 7
  have hL : ∀ n, f_Q_text_L74 (n + 1) Q = f_Q_text_L74 n Q1 := fun n => by
    rw [L_1 n h18 h27]
    unfold f_Q_begins f_Q_isSign
    rw [if_neg (by omega), if_neg (by omega), if_pos h16, if_neg (by omega), ob, if_pos rfl, if_pos h16, if_pos h17, ob, if_neg (by omega), a2, ob, ob]
  unfold f_Reader_one f_Reader_one_J57 f_Reader_one_J81
  rw [h3, if_neg (by omega), if_neg (by omega), if_pos (by omega), if_neg (by omega), if_pos rfl, if_pos (by omega), a1, ob, i_ad_eq (by omega)]
  refine ok_bind (IH X1 Q1 cl ql s p1 a3 a4 (by rw [a8]; exact h27) (by rw [a9]; exact h29) a5 (by omega) (by omega) hs) (fun y hy => ?_)
  rcases hy with hy | hy
  · obtain ⟨X', b1, b2⟩ := fls_post ht hy 40
    rw [b1, ob, if_pos (Or.inl hy.1), hy.1]
    exact ok_some (Or.inl (fls_pre hL a10 (fz_mo a13 CA_CC (idm _)) (by omega) (by omega) a7 b2))
  · obtain ⟨c1, c2, c3, c4, lq, pend, Q2, c, p', d1, d2, d3, d4, d5, d6, d7, d8, d9, d10⟩ := hy
    have d7 : pend = [] := d7
    subst d7
    rw [show lq ++ zw [] = lq from List.append_nil _] at d4 d8
    rw [List.nil_append] at d5
    rw [List.length_nil] at d6
    have hpN := (p_le d4.2.1 d1).1
    obtain ⟨X', b1, b2, b3, b4⟩ := x_emit (x := 40) (c := (402, 0)) ht d4.2.2.1 (by rw [List.length_append]; omega) rfl (by omega)
    obtain ⟨Q3, e1, e2, e3⟩ := q_over7 d5 hl (by omega) (by rw [List.length_append]; omega)
    rw [b1, ob, if_pos (Or.inr c1), c1]
    refine ok_some (Or.inr ⟨rfl, gx_tr a10 (gx_tr c2 b3), ?_, ?_, lq ++ [(402, 0)], [], Q3, c + 1, p', ?_, by omega, by omega, ?_, ?_, ?_, rfl, ?_, ?_, ?_⟩)
    · show X' 66 7 = X 66 7
      rw [b4, c3, a11]
    · show X' 66 8 = X 66 8
      rw [b4, c4, a12]
    · rw [e3.2 15 (by decide)]; exact d1
    · rw [show lq ++ [(402, 0)] ++ zw [] = lq ++ [(402, 0)] from List.append_nil _, ← List.append_assoc]
      exact ⟨TPX_g d4.1 ht b3 e3 (by decide) (by decide), TK_mo d4.2.1 b4 (e3.2 14 (by decide)) (e3.2 15 (by decide)) (e3.2 16 (by decide)) (e3.2 17 (by decide)), b2, by show X' 66 2 = _; rw [b4, e3.2 29 (by decide)]; exact d4.2.2.2⟩
    · rw [← List.append_assoc]; exact e2
    · rw [List.length_append]; show lq.length + 1 + 0 ≤ p' - p; omega
    · rw [show lq ++ [(402, 0)] ++ zw [] = lq ++ [(402, 0)] from List.append_nil _]
      exact trs_app _ _ _ _ _ d8 ⟨_, ⟨by show s.length + 1 ≤ 40; omega, Or.inr (Or.inr (Or.inl ⟨rfl, s, rfl, rfl⟩))⟩, rfl⟩
    · intro n
      rw [← Nat.add_assoc, hL, d9, e1]
    · exact fz_tr (fz_tr (C := CA) (S := SS) a13 d10 (idm _) (idm _) (idm _) (idm _)) e3 (idm _) (idm _) (by decide) (by decide)
end
