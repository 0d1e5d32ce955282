/-! REVOLUTIONS on both sides; what is only asked -/
section
variable {A : Nat → Int} {M : pm_M}
/-- one turn of the reference's loop -/
theorem q_turn {x d : Int} {A' : Nat → Int} (hA : WF A) (hM : M 88 = A) (hx : M 87 54 = x) (h : 0 ≤ x ∧ x < 200000) (h0 : A 0 ≠ 0) (h1 : A 1 ≠ 0) (hT : TN (t_k x) (t_f A x) (t_s A x) A A' d) {n : Nat} {y2 y3 y4 : Int} (hy : y4 < y2) (hy3 : 0 ≤ y3 ∧ y3 < 1000) (hy4 : 0 ≤ y4 ∧ y4 < 1000) {Q : Int × pm_M → Prop}
    (k : ∀ M' : pm_M, M' 88 = A' → M' 87 54 = nx (nx (nx x)) → (∀ j, j ≠ 54 → M' 87 j = M 87 j) → fr [87, 88] M M' → ok (f_Q_revolution_L60 n y2 (y3 + d) (y4 + 1) M') Q) : ok (f_Q_revolution_L60 (n + 1) y2 y3 y4 M) Q := by
  have w0 := hA.1
  have w1 := hA.2.1
  have n1 := nx_b x
  have n2 := nx_b (nx x)
  unfold f_Q_revolution_L60
  refine ok_neg (by omega) ?_
  refine ok_be (q_draw hx h (by omega)) ?_
  have e88 : ∀ (M' : pm_M) (v : Int), pm_ms M' 87 54 v 88 = M' 88 := fun M' v => by rw [msn, if_neg (by omega)]
  have e54 : ∀ (M' : pm_M) (v : Int), pm_ms M' 87 54 v 87 54 = v := fun M' v => by rw [msc, aSn, if_pos rfl]
  dsimp only
  rw [e88, hM, show x % 3 = t_k x from rfl]
  have kk : t_k x = 0 ∨ t_k x = 1 ∨ t_k x = 2 := by unfold t_k; omega
  generalize hM3 : pm_ms (pm_ms (pm_ms M 87 54 (nx x)) 87 54 (nx (nx x))) 87 54 (nx (nx (nx x))) = M3
  have g88 : M3 88 = A := by rw [← hM3, e88, e88, e88, hM]
  have g54 : M3 87 54 = nx (nx (nx x)) := by rw [← hM3, e54]
  have gj : ∀ j, j ≠ 54 → M3 87 j = M 87 j := fun j hj => by rw [← hM3, msc, msc, msc, aSn, if_neg hj, aSn, if_neg hj, aSn, if_neg hj]
  have gf : fr [87, 88] M M3 := by rw [← hM3]; exact fr_2 (fr_2 (fr_ms (by decide)) (fr_ms (by decide))) (fr_ms (by decide))
  have i3 : i_ad y3 0 = y3 + 0 ∧ i_ad y3 1 = y3 + 1 ∧ i_ad y4 1 = y4 + 1 := ⟨i_ad_eq (by omega), i_ad_eq (by omega), i_ad_eq (by omega)⟩
  -- the memory behind the change
  have put : ∀ (p : Int) (v : Int), 0 ≤ p ∧ p < 8 → rU A (aS (a_row A) p.toNat v) = A' → d = 1 → ok (f_Q_revolution_L60 n y2 (i_ad y3 1) (i_ad y4 1) (pm_ms M3 88 (70 + p.toNat) v)) Q := by
    intro p v hp hA' hd
    rw [i3.2.1, i3.2.2]
    have := k (pm_ms M3 88 (70 + p.toNat) v) (by rw [msc, g88, ← hA', ← rU_aS (by omega), rU_self]) (by rw [msn, if_neg (by omega)]; exact g54) (fun j hj => by rw [msn, if_neg (by omega)]; exact gj j hj) (fr_2 gf (fr_ms (by decide)))
    rw [hd] at this
    exact this
  have stay : A' = A → d = 0 → ok (f_Q_revolution_L60 n y2 (i_ad y3 0) (i_ad y4 1) M3) Q := by
    intro hA' hd
    rw [i3.1, i3.2.2]
    have := k M3 (by rw [hA']; exact g88) g54 gj gf
    rw [hd] at this
    exact this
  have swp : ∀ p q : Int, 0 ≤ p ∧ p < 8 → 0 ≤ q ∧ q < 8 → A' = rU A (r_sw (a_row A) p.toNat q.toNat) → d = 1 → ok ((f_Q_changes p q M3).bind fun M1 => f_Q_revolution_L60 n y2 (i_ad y3 1) (i_ad y4 1) M1) Q := by
    intro p q hp hq hA' hd
    refine ok_bind (q_changes g88 hp hq) (fun M5 h5 => ?_)
    rw [i3.2.1, i3.2.2]
    have := k M5 (by rw [hA']; exact h5.1) (by rw [h5.2 87 (by decide)]; exact g54) (fun j hj => by rw [h5.2 87 (by decide)]; exact gj j hj) (fr_tr gf h5.2 (by decide) (by decide))
    rw [hd] at this
    exact this
  rcases kk with k0 | k1 | k2
  · rw [if_pos k0]
    refine ok_be (q_draw (e54 _ _) (by omega) (by omega)) ?_
    dsimp only
    rw [e88, e88, hM]
    refine ok_be (q_draw (e54 _ _) (by omega) (by omega)) ?_
    dsimp only
    rw [hM3, if_pos k0, show nx (nx x) % A 0 = t_s A x from rfl, show nx x % A 1 = t_f A x by unfold t_f; rw [if_pos k0]]
    refine ok_bind (q_canPut hA g88 _ _) (fun v hv => ?_)
    rcases hv with ⟨hc, rfl⟩ | ⟨hc, rfl⟩
    · have h2 := hc.2.1
      refine ok_neg (by omega) ?_
      rw [if_pos k0, i_ad_eq (a := 70) (by omega), tn70 (by omega)]
      refine ok_pos (by omega) (ok_bd (ok_neg (by omega) ?_))
      rcases hT with ⟨_, _, hd, hA'⟩ | ⟨z, _⟩ | ⟨z, _⟩ | ⟨z, _⟩
      · exact put _ _ (by omega) hA'.symm hd
      · omega
      · omega
      · exact absurd ⟨k0, hc⟩ z
    · refine ok_pos rfl ?_
      unfold f_Q_revolution_J190 f_Q_revolution_J212
      refine ok_pos rfl (ok_pos rfl (ok_pos rfl ?_))
      rcases hT with ⟨_, z, _⟩ | ⟨z, _⟩ | ⟨z, _⟩ | ⟨_, _, _, hd, hA'⟩
      · exact absurd z hc
      · omega
      · omega
      · exact stay hA' hd
  · rw [if_neg (by omega)]
    refine ok_be (q_draw (e54 _ _) (by omega) (by omega)) ?_
    dsimp only
    rw [e88, e88, hM]
    refine ok_be (q_draw (e54 _ _) (by omega) (by omega)) ?_
    dsimp only
    rw [hM3, if_neg (by omega), if_pos k1, show nx (nx x) % A 0 = t_s A x from rfl, show nx x % A 0 = t_f A x by unfold t_f; rw [if_neg (by omega)]]
    refine ok_bind (q_canChange hA g88 _ _) (fun v hv => ?_)
    unfold f_Q_revolution_J190 f_Q_revolution_J212
    rcases hv with ⟨hc, rfl⟩ | ⟨hc, rfl⟩
    · have h2 := hc.1
      have h3 := hc.2.1
      refine ok_neg (by omega) (ok_neg (by omega) (ok_neg (by omega) (ok_pos k1 ?_)))
      rcases hT with ⟨z, _⟩ | ⟨_, _, hd, hA'⟩ | ⟨z, _⟩ | ⟨_, z, _⟩
      · omega
      · have := swp (t_f A x) (t_s A x) (by omega) (by omega) hA' hd
        simpa using this
      · omega
      · exact absurd ⟨k1, hc⟩ z
    · refine ok_pos rfl (ok_pos rfl (ok_pos rfl (ok_pos rfl ?_)))
      rcases hT with ⟨z, _⟩ | ⟨_, z, _⟩ | ⟨z, _⟩ | ⟨_, _, _, hd, hA'⟩
      · omega
      · exact absurd z hc
      · omega
      · exact stay hA' hd
  · rw [if_neg (by omega)]
    refine ok_be (q_draw (e54 _ _) (by omega) (by omega)) ?_
    dsimp only
    rw [e88, e88, hM]
    refine ok_be (q_draw (e54 _ _) (by omega) (by omega)) ?_
    dsimp only
    rw [hM3, if_neg (by omega), if_neg (by omega), show nx (nx x) % A 0 = t_s A x from rfl, show nx x % A 0 = t_f A x by unfold t_f; rw [if_neg (by omega)]]
    have hf : 0 ≤ t_f A x ∧ t_f A x < A 0 := by
      unfold t_f; rw [if_neg (by omega)]
      exact ⟨Int.emod_nonneg _ (by omega), Int.emod_lt_of_pos _ (by omega)⟩
    rw [i_ad_eq (a := 70) (by omega), tn70 (by omega)]
    unfold f_Q_revolution_J190 f_Q_revolution_J212
    have hc0 : M3 88 (70 + (t_f A x).toNat) = a_row A (t_f A x).toNat := congrFun g88 _
    refine ok_pos (by omega) (ok_ite (fun hc => ?_) (fun hc => ?_))
    · have hc : a_row A (t_f A x).toNat = -1 := hc0.symm.trans hc
      refine ok_pos rfl (ok_pos rfl (ok_pos rfl ?_))
      rcases hT with ⟨z, _⟩ | ⟨z, _⟩ | ⟨_, z, _⟩ | ⟨_, _, _, hd, hA'⟩
      · omega
      · omega
      · exact absurd hc z.2
      · exact stay hA' hd
    · have hc : ¬ a_row A (t_f A x).toNat = -1 := fun z => hc (hc0.trans z)
      refine ok_neg (by omega) (ok_neg (by omega) (ok_neg (by omega) (ok_neg (by omega) ?_)))
      rw [i_ad_eq (a := 70) (by omega), tn70 (by omega)]
      refine ok_pos (by omega) (ok_bd (ok_neg (by omega) ?_))
      rcases hT with ⟨z, _⟩ | ⟨z, _⟩ | ⟨_, _, hd, hA'⟩ | ⟨_, _, z, _⟩
      · omega
      · omega
      · exact put _ _ (by omega) hA'.symm hd
      · exact absurd ⟨k2, hf, hc⟩ z
theorem st_revL (N : Int) (hN : N ≤ 99) : ∀ (t n n' : Nat) (y3 y4 x : Int) (A : Nat → Int) (MX : pm_M), y4 + t = N → t < n → t < n' → 0 ≤ y3 → y3 ≤ y4 → WF A → A 0 ≠ 0 → A 1 ≠ 0 → CX 24 36 1 A MX → MX 0 14 = x → 0 ≤ x → x < 200000 →
    ok (f_X_revolution_L70 n N y3 y4 MX) (fun y => fr [0, 36] MX y.2 ∧ ∃ A', WF A' ∧ A' 2 = A 2 ∧ CX 24 36 1 A' y.2 ∧ ∀ MQ : pm_M, MQ 88 = A → MQ 87 54 = x → ok (f_Q_revolution_L60 n' N y3 y4 MQ) (fun z => y.1 = z.1 ∧ z.2 88 = A' ∧ (∀ j, j ≠ 54 → z.2 87 j = MQ 87 j) ∧ fr [87, 88] MQ z.2)) := by
  intro t
  induction t with
  | zero =>
    intro n n' y3 y4 x A MX ht hn hn' hy3 hy34 hA h0 h1 hC hx hx0 hx1
    cases n with
    | zero => omega
    | succ n =>
      cases n' with
      | zero => omega
      | succ n' =>
        unfold f_X_revolution_L70
        refine ok_pos (by omega) (ok_some ⟨fr_rf _ _, A, hA, rfl, hC, fun MQ h8 h7 => ?_⟩)
        unfold f_Q_revolution_L60
        exact ok_pos (by omega) (ok_some ⟨rfl, h8, fun _ _ => rfl, fr_rf _ _⟩)
  | succ t ih =>
    intro n n' y3 y4 x A MX ht hn hn' hy3 hy34 hA h0 h1 hC hx hx0 hx1
    cases n with
    | zero => omega
    | succ n =>
      cases n' with
      | zero => omega
      | succ n' =>
        unfold f_X_revolution_L70
        refine ok_neg (by omega) (ok_bind (x_turns hA hC hx ⟨hx0, hx1⟩ h0 h1) (fun y hy => ?_))
        obtain ⟨A1, hT, hC1, hx1', hf1⟩ := hy
        obtain ⟨hW1, h2, e0, e1⟩ := TN_W hA hT
        have hd : y.1 = 0 ∨ y.1 = 1 := by
          rcases hT with ⟨_, _, z, _⟩ | ⟨_, _, z, _⟩ | ⟨_, _, z, _⟩ | ⟨_, _, _, z, _⟩
          · exact Or.inr z
          · exact Or.inr z
          · exact Or.inr z
          · exact Or.inl z
        have hb := nx_b (nx (nx x))
        have go : ok (f_X_revolution_L70 n N (y3 + y.1) (y4 + 1) y.2) (fun z => fr [0, 36] MX z.2 ∧ ∃ A', WF A' ∧ A' 2 = A 2 ∧ CX 24 36 1 A' z.2 ∧ ∀ MQ : pm_M, MQ 88 = A → MQ 87 54 = x → ok (f_Q_revolution_L60 (n' + 1) N y3 y4 MQ) (fun w => z.1 = w.1 ∧ w.2 88 = A' ∧ (∀ j, j ≠ 54 → w.2 87 j = MQ 87 j) ∧ fr [87, 88] MQ w.2)) := by
          refine ok_mono (ih n n' (y3 + y.1) (y4 + 1) (nx (nx (nx x))) A1 y.2 (by omega) (by omega) (by omega) (by omega) (by omega) hW1 (by rw [e0]; exact h0) (by rw [e1]; exact h1) hC1 hx1' (by omega) (by omega)) (fun z hz => ?_)
          obtain ⟨hf2, A2, hW2, h22, hC2, hQ⟩ := hz
          refine ⟨fr_2 hf1 hf2, A2, hW2, h22.trans h2, hC2, fun MQ h8 h7 => ?_⟩
          refine q_turn hA h8 h7 ⟨hx0, hx1⟩ h0 h1 hT (by omega) (by omega) (by omega) (fun M' g8 g7 gj gf => ?_)
          exact ok_mono (hQ M' g8 g7) (fun w hw => ⟨hw.1, hw.2.1, fun j hj => (hw.2.2.1 j hj).trans (gj j hj), fr_2 gf hw.2.2.2⟩)
        rw [i_ad_eq (a := y4) (by omega), i_ad_eq (a := y3) (by omega)]
        rcases hd with hd | hd
        · refine ok_pos hd ?_
          rw [hd] at go
          simpa using go
        · refine ok_neg (by omega) ?_
          rw [hd] at go
          exact go
theorem st_rev (hS : St M) (s n : Int) : ok (f_X_revolution s n M) (fun y => ok (f_Q_revolution s n y.2) (fun z => y.1 = z.1 ∧ St z.2 ∧ z.2 88 2 = M 88 2 ∧ Kp M z.2)) := by
  obtain ⟨hA, hC⟩ := id hS
  have w0 := hA.1
  have w1 := hA.2.1
  have no : ¬ ((0 ≤ s ∧ s ≤ 9999) ∧ (1 ≤ n ∧ n ≤ 99) ∧ M 88 0 ≠ 0 ∧ M 88 1 ≠ 0) → ok (f_Q_revolution s n M) (fun z => -1 = z.1 ∧ St z.2 ∧ z.2 88 2 = M 88 2 ∧ Kp M z.2) := by
    intro hn
    have r : ok (some ((-1 : Int), M)) (fun z => -1 = z.1 ∧ St z.2 ∧ z.2 88 2 = M 88 2 ∧ Kp M z.2) := ok_some ⟨rfl, hS, rfl, Kp_rf M⟩
    unfold f_Q_revolution
    refine ok_dc (f_Q_in_eq s 0 9999 M) (fun h1 => ok_neg (by omega) ?_) (fun _ => ok_pos rfl r)
    refine ok_dc (f_Q_in_eq n 1 99 M) (fun h2 => ok_neg (by omega) ?_) (fun _ => ok_pos rfl r)
    refine ok_ite (fun _ => r) (fun h3 => ok_ite (fun _ => r) (fun h4 => absurd ⟨h1, h2, h3, h4⟩ hn))
  unfold f_X_revolution f_Told_plinths f_Told_heads
  refine ok_ite (fun h1 => ok_some (no (by omega))) (fun h1 => ?_)
  refine ok_ite (fun h2 => ok_some (no (by omega))) (fun h2 => ?_)
  refine ok_ite (fun h3 => ok_some (no (by omega))) (fun h3 => ?_)
  refine ok_ite (fun h4 => ok_some (no (by omega))) (fun h4 => ?_)
  refine ok_be (congrArg some hC.1.1.1) ?_
  refine ok_ite (fun h5 => ok_some (no (by omega))) (fun h5 => ?_)
  refine ok_be (congrArg some hC.1.1.2.1) ?_
  refine ok_ite (fun h6 => ok_some (no (by omega))) (fun h6 => ?_)
  refine ok_bind (x_keep hA hC) (fun M1 k1 => ok_bd ?_)
  rw [i_ml_eq (by omega), i_ad_eq (by omega)]
  have hW := WF_kS hA
  have gf : fr [0] M1 (pm_ms M1 0 14 (s * 13 + 5)) := fr_ms (by decide)
  refine ok_bind (st_revL n (by omega) n.toNat pm_F pm_F 0 0 (s * 13 + 5) (kS (M 88)) (pm_ms M1 0 14 (s * 13 + 5)) (by omega) (by unfold pm_F; omega) (by unfold pm_F; omega) (by omega) (by omega) hW (by rw [kS_0]; exact h5) (by rw [kS_1]; exact h6) (CX_fr gf (by decide) k1.1) (by rw [msc, aSn, if_pos rfl]) (by omega) (by omega)) (fun y hy => ok_some ?_)
  obtain ⟨hf, A', hW', h2', hC', hQ⟩ := hy
  have fx : fr [0, 1, 2, 36] M y.2 := fr_tr (fr_tr k1.2 gf (S := [0, 1, 2]) (by decide) (by decide)) hf (by decide) (by decide)
  show ok (f_Q_revolution s n y.2) _
  have e88 : y.2 88 = M 88 := fx 88 (by decide)
  unfold f_Q_revolution
  refine ok_dc (f_Q_in_eq s 0 9999 y.2) (fun _ => ok_neg (by omega) ?_) (fun z => absurd ⟨by omega, by omega⟩ z)
  refine ok_dc (f_Q_in_eq n 1 99 y.2) (fun _ => ok_neg (by omega) ?_) (fun z => absurd ⟨by omega, by omega⟩ z)
  rw [e88]
  refine ok_neg h5 (ok_neg h6 ?_)
  refine ok_bind (q_keep hA.2.2.2.2.1 e88) (fun N1 q1 => ok_bd ?_)
  rw [i_ml_eq (by omega), i_ad_eq (by omega)]
  refine ok_bind (hQ (pm_ms N1 87 54 (s * 13 + 5)) (by rw [msn, if_neg (by omega)]; exact q1.1) (by rw [msc, aSn, if_pos rfl])) (fun z hz => ok_some ⟨hz.1, ?_, ?_, ?_⟩)
  · show St z.2
    have fq : fr [87, 88] y.2 z.2 := fr_tr (fr_tr q1.2 (S2 := [87]) (fr_ms (by decide)) (S := [87, 88]) (by decide) (by decide)) hz.2.2.2 (by decide) (by decide)
    refine ⟨by rw [hz.2.1]; exact hW', ?_⟩
    rw [hz.2.1]
    exact CX_fr fq (by decide) hC'
  · show z.2 88 2 = _
    rw [hz.2.1, h2', kS_2]
  · show Kp M z.2
    have fq : fr [87, 88] y.2 z.2 := fr_tr (fr_tr q1.2 (S2 := [87]) (fr_ms (by decide)) (S := [87, 88]) (by decide) (by decide)) hz.2.2.2 (by decide) (by decide)
    have k1 : Kp M y.2 := Kp_fr fx (by decide)
    have a : ∀ j, j ≠ 54 → z.2 87 j = y.2 87 j := fun j hj => by rw [hz.2.2.1 j hj, msc, aSn, if_neg hj, q1.2 87 (by decide)]
    refine Kp_tr k1 ⟨fun c hc => fq c ?_, a 3 (by omega), a 4 (by omega), a 5 (by omega), by rw [fq 77 (by decide)]⟩
    intro hcc
    have : ∀ c ∈ KL, c ∉ [87, 88] := by decide
    exact this c hc hcc
end
