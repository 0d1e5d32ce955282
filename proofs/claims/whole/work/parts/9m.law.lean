/-! THE LAW over the pure memory -/
section
theorem z88 : pm_M1 88 = fun i => if i = 3 ∨ (70 ≤ i ∧ i < 86) then -1 else 0 := by
  funext i
  by_cases h : i < 90
  · have k : ∀ n : Fin 90, pm_M1 88 n.1 = if n.1 = 3 ∨ (70 ≤ n.1 ∧ n.1 < 86) then -1 else 0 := by decide +kernel
    exact k ⟨i, h⟩
  · rw [if_neg (by omega)]
    unfold pm_M1 k_Q_init_87_M
    rw [ms_nj _ 88 85 _ (by omega), ms_nj _ 88 77 _ (by omega), ms_nj _ 88 84 _ (by omega), ms_nj _ 88 76 _ (by omega), ms_nj _ 88 83 _ (by omega), ms_nj _ 88 75 _ (by omega), ms_nj _ 88 82 _ (by omega), ms_nj _ 88 74 _ (by omega), ms_nj _ 88 81 _ (by omega), ms_nj _ 88 73 _ (by omega), ms_nj _ 88 80 _ (by omega), ms_nj _ 88 72 _ (by omega), ms_nj _ 88 79 _ (by omega), ms_nj _ 88 71 _ (by omega), ms_nj _ 88 78 _ (by omega), ms_nj _ 88 70 _ (by omega), ms_nj _ 88 3 _ (by omega), ms_nc _ 87 _ _ (by omega), ms_nc _ 87 _ _ (by omega)]
    rfl
theorem z_wf : WF (pm_M1 88) := by
  rw [z88]
  have r0 : ∀ i, a_row (fun i => if i = 3 ∨ (70 ≤ i ∧ i < 86) then (-1 : Int) else 0) i = if i < 16 then -1 else 0 := fun i => by
    show (if 70 + i = 3 ∨ (70 ≤ 70 + i ∧ 70 + i < 86) then (-1 : Int) else 0) = _
    by_cases h : i < 16
    · rw [if_pos h, if_pos (by omega)]
    · rw [if_neg h, if_neg (by omega)]
  refine ⟨by decide, by decide, by decide, by decide, by decide, by decide, fun p hp => ?_, fun p hp => ?_, fun k hk => ?_, ⟨fun p hp => ?_, fun p q hp hq _ h1 _ => ?_, fun p hp => ?_, fun p hp => ?_, ?_, ?_, fun k hk => ?_⟩, fun j hj => ?_⟩
  · dsimp only
    rw [if_neg (by omega), if_neg (by omega), if_neg (by omega), if_neg (by omega)]; decide
  · dsimp only
    rw [if_neg (by omega), if_neg (by omega)]; decide
  · exact absurd hk (by show ¬ (k : Int) < 0; omega)
  · rw [r0, if_pos (by omega)]; exact ⟨by decide, by decide, fun _ => rfl⟩
  · exact h1 (by rw [r0, if_pos (by omega)])
  · rw [r0, if_pos (by omega)]; decide
  · rw [r0, r0, if_neg (by omega), if_neg (by omega)]; exact ⟨by decide, by decide, fun _ => rfl⟩
  · rw [r0, r0]; decide
  · rw [r0]; decide
  · rw [r0, r0, if_neg (by omega), if_neg (by omega)]; decide
  · exact absurd hj (by show ¬ (j : Int) < 0; omega)
theorem z_cx {t r s : Nat} (hx : (t = 24 ∧ r = 36 ∧ s = 1) ∨ (t = 3 ∧ r = 15 ∧ s = 16)) : CX t r s (pm_M1 88) pm_M1 := by
  have e0 : pm_M1 88 0 = 0 := by decide +kernel
  have e4 : pm_M1 88 4 = 0 := by decide +kernel
  rcases hx with ⟨rfl, rfl, rfl⟩ | ⟨rfl, rfl, rfl⟩
  · refine ⟨⟨by decide +kernel, ?_, fun p hp => by rw [e0] at hp; omega, ?_, ?_⟩, ?_, by decide +kernel, by decide +kernel, fun j hj => by rw [e4] at hj; omega⟩
    · have k : ∀ p : Fin 8, pm_M1 (24 + 1) p.1 = pm_M1 88 (10 + 4 * p.1) ∧ pm_M1 (24 + 2) p.1 = pm_M1 88 (11 + 4 * p.1) ∧ pm_M1 (24 + 3) p.1 = pm_M1 88 (12 + 4 * p.1) ∧ pm_M1 (24 + 4) p.1 = pm_M1 88 (13 + 4 * p.1) := by decide +kernel
      exact fun p hp => k ⟨p, hp⟩
    · have k : ∀ p : Fin 12, pm_M1 (24 + 6) p.1 = pm_M1 88 (42 + 2 * p.1) ∧ pm_M1 (24 + 7) p.1 = pm_M1 88 (43 + 2 * p.1) := by decide +kernel
      exact fun p hp => k ⟨p, hp⟩
    · have k : ∀ p : Fin 12, pm_M1 (24 + 8) p.1 = pm_M1 88 (256 + 3 * p.1) ∧ pm_M1 (24 + 9) p.1 = pm_M1 88 (257 + 3 * p.1) ∧ pm_M1 (24 + 10) p.1 = pm_M1 88 (258 + 3 * p.1) := by decide +kernel
      exact fun p hp => k ⟨p, hp⟩
    · have k : ∀ p : Fin 186, pm_M1 36 p.1 = pm_M1 88 (70 + p.1) := by decide +kernel
      exact fun p hp => k ⟨p, hp⟩
  · refine ⟨⟨by decide +kernel, ?_, fun p hp => by rw [e0] at hp; omega, ?_, ?_⟩, ?_, by decide +kernel, by decide +kernel, fun j hj => by rw [e4] at hj; omega⟩
    · have k : ∀ p : Fin 8, pm_M1 (3 + 1) p.1 = pm_M1 88 (10 + 4 * p.1) ∧ pm_M1 (3 + 2) p.1 = pm_M1 88 (11 + 4 * p.1) ∧ pm_M1 (3 + 3) p.1 = pm_M1 88 (12 + 4 * p.1) ∧ pm_M1 (3 + 4) p.1 = pm_M1 88 (13 + 4 * p.1) := by decide +kernel
      exact fun p hp => k ⟨p, hp⟩
    · have k : ∀ p : Fin 12, pm_M1 (3 + 6) p.1 = pm_M1 88 (42 + 2 * p.1) ∧ pm_M1 (3 + 7) p.1 = pm_M1 88 (43 + 2 * p.1) := by decide +kernel
      exact fun p hp => k ⟨p, hp⟩
    · have k : ∀ p : Fin 12, pm_M1 (3 + 8) p.1 = pm_M1 88 (256 + 3 * p.1) ∧ pm_M1 (3 + 9) p.1 = pm_M1 88 (257 + 3 * p.1) ∧ pm_M1 (3 + 10) p.1 = pm_M1 88 (258 + 3 * p.1) := by decide +kernel
      exact fun p hp => k ⟨p, hp⟩
    · have k : ∀ p : Fin 186, pm_M1 15 p.1 = pm_M1 88 (70 + p.1) := by decide +kernel
      exact fun p hp => k ⟨p, hp⟩
/-- a new object, and its image -/
theorem iv_new : ok (f_Q_copies 1 pm_M1) Inv := by
  refine ok_mono (q_copies1 pm_M1) (fun M' h => ?_)
  obtain ⟨m1, m2, m3⟩ := h
  have e89 : ∀ k, k < 4012 → M' 89 k = pm_M1 88 k := fun k hk => by rw [m2]; show (if k < 4012 then _ else _) = _; rw [if_pos hk]
  have c3 : CX 3 15 16 (pm_M1 88) M' := by
    have c0 := z_cx (t := 3) (r := 15) (s := 16) (Or.inr ⟨rfl, rfl, rfl⟩)
    exact ⟨rT_congr (fun k hk => m3 (3 + k) (by simp; omega)) c0.1, rR_congr (m3 15 (by decide)) c0.2.1, rS_congr (m3 16 (by decide)) (m3 17 (by decide)) c0.2.2⟩
  have e0 : pm_M1 37 1 = 0 ∧ pm_M1 87 3 = 0 ∧ pm_M1 66 7 = pm_M1 87 4 ∧ pm_M1 66 8 = pm_M1 87 5 ∧ pm_M1 88 2 = 0 ∧ pm_M1 77 7 = 0 := by decide +kernel
  refine ⟨⟨by rw [m1]; exact z_wf, by rw [m1]; exact CX_fr m3 (by decide) (z_cx (Or.inl ⟨rfl, rfl, rfl⟩))⟩, ⟨WF_Q z_wf e89, CX_Q z_wf e89 c3⟩, by rw [e89 2 (by omega), m1]; exact Int.le_refl _, ⟨?_, ?_, fun k hk => ?_⟩, ⟨?_, ?_⟩, fun t ht => ?_, Or.inl ?_⟩
  · rw [m3 37 (by decide), e0.1]; decide
  · rw [m3 37 (by decide), m3 87 (by decide), e0.1]; exact e0.2.1
  · rw [m3 37 (by decide), e0.1] at hk; omega
  · rw [m3 66 (by decide), m3 87 (by decide)]; exact e0.2.2.1
  · rw [m3 66 (by decide), m3 87 (by decide)]; exact e0.2.2.2.1
  · rw [m1, e0.2.2.2.2.1] at ht; omega
  · rw [m3 77 (by decide)]; exact e0.2.2.2.2.2
theorem sx32 (G : pm_G) (j : Nat) : pm_i32 (g_sx G j) := r32 _
/-- every run of the law -/
theorem law_all (G : pm_G) (hL : g_L G ≤ 3072) : ∀ (n j : Nat) (M : pm_M), Inv M → g_L G < 6 * j + 6 * n → ok (f_L_law_L18 G (n + 1) ((6 * j : Nat) : Int) M) (fun _ => True) := by
  intro n
  induction n with
  | zero =>
    intro j M hI hn
    rw [f_L_law_L18, i_sb_eq (by omega), if_pos (by omega)]
    exact ok_some trivial
  | succ n ih =>
    intro j M hI hn
    rw [f_L_law_L18, i_sb_eq (by omega)]
    by_cases hd : (g_L G : Int) - 6 < ((6 * j : Nat) : Int)
    · rw [if_pos hd]
      exact ok_some trivial
    · have a1 : i_ad ((6 * j : Nat) : Int) 1 = ((6 * j + 1 : Nat) : Int) := by rw [i_ad_eq (by omega)]; omega
      have a2 : i_ad ((6 * j : Nat) : Int) 2 = ((6 * j + 2 : Nat) : Int) := by rw [i_ad_eq (by omega)]; omega
      have a3 : i_ad ((6 * j : Nat) : Int) 3 = ((6 * j + 3 : Nat) : Int) := by rw [i_ad_eq (by omega)]; omega
      have a4 : i_ad ((6 * j : Nat) : Int) 4 = ((6 * j + 4 : Nat) : Int) := by rw [i_ad_eq (by omega)]; omega
      have a5 : i_ad ((6 * j : Nat) : Int) 5 = ((6 * j + 5 : Nat) : Int) := by rw [i_ad_eq (by omega)]; omega
      have a6 : i_ad ((6 * j : Nat) : Int) 6 = ((6 * (j + 1) : Nat) : Int) := by rw [i_ad_eq (by omega)]; omega
      have h1 : 0 ≤ i_ad ((6 * j : Nat) : Int) 1 ∧ i_ad ((6 * j : Nat) : Int) 1 < (g_L G : Int) := by rw [a1]; omega
      have h2 : 0 ≤ i_ad ((6 * j : Nat) : Int) 2 ∧ i_ad ((6 * j : Nat) : Int) 2 < (g_L G : Int) := by rw [a2]; omega
      have h3 : 0 ≤ i_ad ((6 * j : Nat) : Int) 3 ∧ i_ad ((6 * j : Nat) : Int) 3 < (g_L G : Int) := by rw [a3]; omega
      have h4 : 0 ≤ i_ad ((6 * j : Nat) : Int) 4 ∧ i_ad ((6 * j : Nat) : Int) 4 < (g_L G : Int) := by rw [a4]; omega
      have h5 : 0 ≤ i_ad ((6 * j : Nat) : Int) 5 ∧ i_ad ((6 * j : Nat) : Int) 5 < (g_L G : Int) := by rw [a5]; omega
      have h0 : 0 ≤ ((6 * j : Nat) : Int) ∧ ((6 * j : Nat) : Int) < (g_L G : Int) := by omega
      have go : ∀ M', Inv M' → ok (f_L_law_L18 G (n + 1) (i_ad ((6 * j : Nat) : Int) 6) M') (fun _ => True) := fun M' hM' => by
        rw [a6]; exact ih (j + 1) M' hM' (by omega)
      rw [if_neg hd]
      generalize ((6 * j : Nat) : Int) = y3 at h0 h1 h2 h3 h4 h5 go ⊢
      refine ok_pos h0 ?_
      refine ok_ite (fun _ => ok_pos h1 (ok_pos h2 (ok_pos h3 (ok_pos h4 (ok_bind (iv_plinth hI _ _ _ _) (fun y hy => ok_pos h1 (ok_pos h2 (ok_pos h3 (ok_pos h4 (ok_bind hy (fun z hz => ok_pos hz.1 (go _ hz.2)))))))))))) (fun _ => ?_)
      refine ok_ite (fun _ => ok_pos h1 (ok_pos h2 (ok_bind (iv_head hI _ _) (fun y hy => ok_pos h1 (ok_pos h2 (ok_bind hy (fun z hz => ok_pos hz.1 (go _ hz.2)))))))) (fun _ => ?_)
      refine ok_ite (fun _ => ok_pos h1 (ok_pos h2 (ok_bind (iv_put hI _ _) (fun y hy => ok_pos h1 (ok_pos h2 (ok_bind hy (fun z hz => ok_pos hz.1 (go _ hz.2)))))))) (fun _ => ?_)
      refine ok_ite (fun _ => ok_pos h1 (ok_bind (iv_off hI _) (fun y hy => ok_pos h1 (ok_bind hy (fun z hz => ok_pos hz.1 (go _ hz.2)))))) (fun _ => ?_)
      refine ok_ite (fun _ => ok_pos h1 (ok_pos h2 (ok_bind (iv_change hI _ _) (fun y hy => ok_pos h1 (ok_pos h2 (ok_bind hy (fun z hz => ok_pos hz.1 (go _ hz.2)))))))) (fun _ => ?_)
      refine ok_ite (fun _ => ok_pos h1 (ok_pos h2 (ok_bind (iv_carve hI _ _) (fun y hy => ok_pos h1 (ok_pos h2 (ok_bind hy (fun z hz => ok_pos hz.1 (go _ hz.2)))))))) (fun _ => ?_)
      refine ok_ite (fun _ => ok_pos h1 (ok_pos h2 (ok_bind (iv_pay hI _ _) (fun y hy => ok_pos h1 (ok_pos h2 (ok_bind hy (fun z hz => ok_pos hz.1 (go _ hz.2)))))))) (fun _ => ?_)
      refine ok_ite (fun _ => ok_pos h1 (ok_bind (iv_pass hI _) (fun y hy => ok_pos h1 (ok_bind hy (fun z hz => ok_pos hz.1 (go _ hz.2)))))) (fun _ => ?_)
      refine ok_ite (fun _ => ok_pos h1 (ok_pos h2 (ok_pos h3 (ok_pos h4 (ok_pos h5 (ok_bind (iv_feed hI _ _ _ _ _) (fun y hy => ok_pos h1 (ok_pos h2 (ok_pos h3 (ok_pos h4 (ok_pos h5 (ok_bind hy (fun z hz => ok_pos hz.1 (go _ hz.2)))))))))))))) (fun _ => ?_)
      refine ok_ite (fun _ => ok_pos h1 (ok_bind (iv_end hI _) (fun y hy => ok_pos h1 (ok_bind hy (fun z hz => ok_pos hz.1 (go _ hz.2)))))) (fun _ => ?_)
      refine ok_ite (fun _ => ok_bind (iv_text hI) (fun y hy => ok_bind hy (fun z hz => ok_pos hz.1 (go _ hz.2)))) (fun _ => ?_)
      refine ok_ite (fun _ => ok_pos h1 (ok_bind (st_fault hI.2.2.2.2.1 _) (fun y hy => ok_pos h1 (ok_be hy (ok_pos rfl (go _ hI)))))) (fun _ => ?_)
      refine ok_ite (fun _ => ok_pos h1 (ok_bind (iv_by hI _) (fun y hy => ok_pos h1 (ok_bind hy (fun z hz => ok_pos hz.1 (go _ hz.2)))))) (fun _ => ?_)
      refine ok_ite (fun _ => ok_pos h1 (ok_bind (iv_played hI _) (fun y hy => ok_pos h1 (ok_bind hy (fun z hz => ok_pos hz.1 (go _ hz.2)))))) (fun _ => ?_)
      refine ok_ite (fun _ => ok_bind (iv_undo hI) (fun y hy => ok_bind hy (fun z hz => ok_pos hz.1 (go _ hz.2)))) (fun _ => ?_)
      refine ok_ite (fun _ => ok_pos h1 (ok_pos h2 (ok_bind (iv_of hI _ _) (fun y hy => ok_pos h1 (ok_pos h2 (ok_bind hy (fun z hz => ok_pos hz.1 (go _ hz.2)))))))) (fun _ => ?_)
      refine ok_ite (fun _ => ok_pos h1 (ok_pos h2 (ok_bind (st_headOf hI.1.1 hI.1.2 rfl _ _) (fun y hy => ok_pos h1 (ok_pos h2 (ok_be hy (ok_pos rfl (go _ hI)))))))) (fun _ => ?_)
      refine ok_ite (fun _ => ok_pos h1 (ok_bind (iv_best hI _) (fun y hy => ok_pos h1 (ok_bind hy (fun z hz => ok_pos hz.1 (go _ hz.2)))))) (fun _ => ?_)
      refine ok_ite (fun _ => ok_pos h1 (ok_pos h2 (ok_pos h3 (ok_bind (iv_seen hI _ _ _) (fun y hy => ok_pos h1 (ok_pos h2 (ok_pos h3 (ok_bind hy (fun z hz => ok_pos hz.1 (go _ hz.2)))))))))) (fun _ => ?_)
      refine ok_ite (fun _ => ok_bind (iv_forget hI) (fun y hy => ok_bind hy (fun z hz => ok_pos hz.1 (go _ hz.2)))) (fun _ => ?_)
      refine ok_ite (fun _ => ok_bind (iv_fewest hI) (fun y hy => ok_bind hy (fun z hz => ok_pos hz.1 (go _ hz.2)))) (fun _ => ?_)
      refine ok_ite (fun _ => ok_pos h1 (ok_pos h2 (ok_bind (iv_who hI _ _) (fun y hy => ok_pos h1 (ok_pos h2 (ok_bind hy (fun z hz => ok_pos hz.1 (go _ hz.2)))))))) (fun _ => ?_)
      refine ok_ite (fun _ => ok_pos h1 (ok_pos h2 (ok_bind (st_stood hI.1.1 hI.1.2 rfl _ _) (fun y hy => ok_pos h1 (ok_pos h2 (ok_be hy (ok_pos rfl (go _ hI)))))))) (fun _ => ?_)
      refine ok_ite (fun _ => ok_pos h1 (ok_bind (st_longest hI.1.1 hI.1.2 rfl _) (fun y hy => ok_pos h1 (ok_be hy (ok_pos rfl (go _ hI)))))) (fun _ => ?_)
      refine ok_ite (fun _ => ok_pos h1 (ok_pos h2 (ok_pos h3 (ok_bind (iv_tour hI _ _ _ (sx32 G _)) (fun y hy => ok_pos h1 (ok_pos h2 (ok_pos h3 (ok_bind hy (fun z hz => ok_pos hz.1 (go _ hz.2)))))))))) (fun _ => ?_)
      refine ok_ite (fun _ => ok_pos h1 (ok_pos h2 (ok_bind (iv_rounds hI _ _) (fun y hy => ok_pos h1 (ok_pos h2 (ok_bind hy (fun z hz => ok_pos hz.1 (go _ hz.2)))))))) (fun _ => ?_)
      refine ok_ite (fun _ => ok_pos h1 (ok_pos h2 (ok_bind (iv_rev hI _ _) (fun y hy => ok_pos h1 (ok_pos h2 (ok_bind hy (fun z hz => ok_pos hz.1 (go _ hz.2)))))))) (fun _ => ?_)
      refine ok_ite (fun _ => ok_bind (iv_image hI) (fun y hy => ok_bind hy (fun z hz => ok_pos hz.1 (go _ hz.2)))) (fun _ => ?_)
      refine ok_ite (fun _ => ok_bind (iv_back hI) (fun y hy => ok_bind hy (fun z hz => ok_pos hz.1 (go _ hz.2)))) (fun _ => ?_)
      refine ok_ite (fun _ => ok_pos h1 (ok_bind (st_about hI.1.1 hI.1.2 rfl hI.2.2.2.1 (sx32 G _)) (fun y hy => ok_pos h1 (ok_be hy (ok_pos rfl (go _ hI)))))) (fun _ => ?_)
      exact go _ hI
theorem pure_law (G : pm_G) (hL : g_L G ≤ 3072) : ∃ M', ((f_Q_copies 1 pm_M1).bind fun M_ => f_L_law_L18 G pm_F 0 M_) = some M' := by
  obtain ⟨M', h, _⟩ := ok_bind (Q2 := fun _ => True) (K := fun M_ => f_L_law_L18 G pm_F 0 M_) iv_new (fun M hM => law_all G hL 999999999 0 M hM (by omega))
  exact ⟨M', h⟩
end
