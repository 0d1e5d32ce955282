/-! THE NEXT TOKEN, both readers -/
def sg (b : Int) : Int :=
  if b = 60 then 24 else if b = 62 then 25 else if b = 61 then 26 else if b = 35 then 27 else if b = 43 then 28 else if b = 45 then 29 else if b = 42 then 30 else if b = 47 then 31 else if b = 40 then 32 else if b = 41 then 33 else if b = 59 then 34 else if b = 300 then 35 else if b = 301 then 36 else 39
def ckd (a b : Int) : Int := if a = 0 then 38 else if a = 1 then b else if a = 2 then 37 else if a = 3 then sg b else 39
theorem sg_t : ∀ n : Fin 256, i_2c ((n : Nat) : Int) = ((n : Nat) : Int) ∧ (if 0 ≤ x_find ((n : Nat) : Int) (x_byt 1) 0 then 24 + x_find ((n : Nat) : Int) (x_byt 1) 0 else 39) = sg ((n : Nat) : Int) ∧ x_find ((n : Nat) : Int) (x_byt 1) 0 ≤ 10 ∧ ((n : Nat) ≠ 60 → (n : Nat) ≠ 62 → sg ((n : Nat) : Int) ≠ 24 ∧ sg ((n : Nat) : Int) ≠ 25) ∧ (sg ((n : Nat) : Int) = 39 ∨ (59 ≤ (n : Nat) ∧ (n : Nat) ≤ 62) ∨ (40 ≤ (n : Nat) ∧ (n : Nat) ≤ 45) ∨ (n : Nat) = 47 ∨ (n : Nat) = 35) := by decide +kernel
theorem pbd {α β : Type} (v : α) (k : α → β) : pm_bd v k = k v := rfl
theorem x_sign {X : pm_M} {p N n : Nat} (hN : X 37 1 = N) (hN3 : N ≤ 300) (hp : p < N) (h6 : X 66 6 = p) (hn : n < 256) : ∃ X', f_Reader_sign (i_2c (n : Int)) X = some X' ∧ fs 66 [3, 6] X X' ∧ ((n = 60 ∨ n = 62) → (tc X (p + 1) = 61 → X' 66 3 = (if n = 60 then 35 else 36) ∧ X' 66 6 = ((p + 2 : Nat) : Int)) ∧ (tc X (p + 1) ≠ 61 → X' 66 3 = sg n ∧ X' 66 6 = ((p + 1 : Nat) : Int))) ∧ (¬ (n = 60 ∨ n = 62) → X' 66 3 = sg n ∧ X' 66 6 = ((p + 1 : Nat) : Int)) := by
  obtain ⟨s1, s2, s3, s4, _⟩ := sg_t ⟨n, hn⟩
  have s1 : i_2c (n : Int) = n := s1
  have s2 : (if 0 ≤ x_find (n : Int) (x_byt 1) 0 then 24 + x_find (n : Int) (x_byt 1) 0 else 39) = sg n := s2
  have s3 : x_find (n : Int) (x_byt 1) 0 ≤ 10 := s3
  have s4 : n ≠ 60 → n ≠ 62 → sg n ≠ 24 ∧ sg n ≠ 25 := s4
  unfold f_Reader_sign x_idx
  rw [s1, h6, i_ad_eq (by omega)]
  generalize hX1 : pm_ms X 66 6 ((p : Int) + 1) = X1
  have f1 : fs 66 [3, 6] X X1 := by rw [← hX1]; exact fs_ms (by decide)
  have g6 : X1 66 6 = ((p + 1 : Nat) : Int) := by rw [← hX1, ms_at]; omega
  rw [pbd, ob]
  by_cases hs : n = 60 ∨ n = 62
  · have hx : x_find (n : Int) (x_byt 1) 0 = (if n = 60 then 0 else 1) := by
      rcases hs with e | e <;> subst e <;> rfl
    have hge : 0 ≤ x_find (n : Int) (x_byt 1) 0 := by rw [hx]; split <;> omega
    rw [if_pos hge] at s2
    rw [if_pos hge, i_ad_eq (by omega), s2]
    generalize hX2 : pm_ms X1 66 3 (sg n) = X2
    have f2 : fs 66 [3, 6] X X2 := fs_tr f1 (by rw [← hX2]; exact fs_ms (by decide))
    have k3 : X2 66 3 = sg n := by rw [← hX2, ms_at]
    have k6 : X2 66 6 = ((p + 1 : Nat) : Int) := by rw [← hX2, ms_nj _ _ _ _ (by omega)]; exact g6
    have kt := tc_fs f2
    have kN : X2 37 1 = N := by rw [fs_o f2 (a := 37) (by omega)]; exact hN
    rw [pbd, k6, x_tape kN hN3, ob, kt]
    have body : ∀ v : Int, (v = if n = 60 then 35 else 36) → ∀ X' : pm_M, (X' = if tc X (p + 1) = 61 then pm_ms (pm_ms X2 66 6 (((p + 1 : Nat) : Int) + 1)) 66 3 v else X2) → fs 66 [3, 6] X X' ∧ ((n = 60 ∨ n = 62) → (tc X (p + 1) = 61 → X' 66 3 = (if n = 60 then 35 else 36) ∧ X' 66 6 = ((p + 2 : Nat) : Int)) ∧ (tc X (p + 1) ≠ 61 → X' 66 3 = sg n ∧ X' 66 6 = ((p + 1 : Nat) : Int))) ∧ (¬ (n = 60 ∨ n = 62) → X' 66 3 = sg n ∧ X' 66 6 = ((p + 1 : Nat) : Int)) := by
      intro v hv X' e
      by_cases h61 : tc X (p + 1) = 61
      · rw [if_pos h61] at e
        rw [e]
        exact ⟨fs_tr f2 (fs_tr (fs_ms (by decide)) (fs_ms (by decide))), fun _ => ⟨fun _ => ⟨by rw [ms_at]; exact hv, by rw [ms_nj _ _ _ _ (by omega), ms_at]; omega⟩, fun z => absurd h61 z⟩, fun z => absurd hs z⟩
      · rw [if_neg h61] at e
        rw [e]
        exact ⟨f2, fun _ => ⟨fun z => absurd z h61, fun _ => ⟨k3, k6⟩⟩, fun z => absurd hs z⟩
    rw [k3, i_ad_eq (by omega)]
    have kk : pm_ms X2 66 6 (((p + 1 : Nat) : Int) + 1) 66 3 = sg n := by rw [ms_nj _ _ _ _ (by omega)]; exact k3
    rcases hs with e | e
    · rw [if_pos (show sg (n : Int) = 24 by rw [e]; rfl)]
      refine ⟨_, ?_, body 35 (by rw [if_pos e]) _ rfl⟩
      by_cases h61 : tc X (p + 1) = 61
      · rw [if_pos h61, if_pos h61]
        show (if pm_ms X2 66 6 (((p + 1 : Nat) : Int) + 1) 66 3 = 24 then _ else _) = _
        rw [kk, if_pos (show sg (n : Int) = 24 by rw [e]; rfl)]
        rfl
      · rw [if_neg h61, if_neg h61]
    · rw [if_neg (show ¬ sg (n : Int) = 24 by rw [e]; decide), if_pos (show sg (n : Int) = 25 by rw [e]; rfl)]
      refine ⟨_, ?_, body 36 (by rw [if_neg (by omega)]) _ rfl⟩
      by_cases h61 : tc X (p + 1) = 61
      · rw [if_pos h61, if_pos h61]
        show (if pm_ms X2 66 6 (((p + 1 : Nat) : Int) + 1) 66 3 = 24 then _ else _) = _
        rw [kk, if_neg (show ¬ sg (n : Int) = 24 by rw [e]; decide)]
        rfl
      · rw [if_neg h61, if_neg h61]
  · have hk := s4 (fun z => hs (Or.inl z)) (fun z => hs (Or.inr z))
    have body : fs 66 [3, 6] X (pm_ms X1 66 3 (sg n)) ∧ ((n = 60 ∨ n = 62) → (tc X (p + 1) = 61 → pm_ms X1 66 3 (sg n) 66 3 = (if n = 60 then 35 else 36) ∧ pm_ms X1 66 3 (sg n) 66 6 = ((p + 2 : Nat) : Int)) ∧ (tc X (p + 1) ≠ 61 → pm_ms X1 66 3 (sg n) 66 3 = sg n ∧ pm_ms X1 66 3 (sg n) 66 6 = ((p + 1 : Nat) : Int))) ∧ (¬ (n = 60 ∨ n = 62) → pm_ms X1 66 3 (sg n) 66 3 = sg n ∧ pm_ms X1 66 3 (sg n) 66 6 = ((p + 1 : Nat) : Int)) :=
      ⟨fs_tr f1 (fs_ms (by decide)), fun z => absurd z hs, fun _ => ⟨ms_at _ _ _ _, by rw [ms_nj _ _ _ _ (by omega)]; exact g6⟩⟩
    refine ⟨_, ?_, body⟩
    by_cases hge : 0 ≤ x_find (n : Int) (x_byt 1) 0
    · rw [if_pos hge] at s2 ⊢
      rw [i_ad_eq (by omega), s2]
      rw [pbd, ms_at, if_neg hk.1, if_neg hk.2]
    · rw [if_neg hge] at s2 ⊢
      rw [pbd, ms_at, if_neg (by omega), if_neg (by omega), s2]
theorem q_385 {Q : pm_M} {j N : Nat} {y : Int} (hN : Q 87 13 = N) (hN3 : N ≤ 300) (hj : Q 87 14 = j) (h : j ≤ N) : ∃ Q', f_Q_next_J385 y Q = some Q' ∧ fs 87 [14, 17] Q Q' ∧ ((j < N ∧ Q 90 j = 61) → Q' 87 17 = (if y = 60 then 300 else 301) ∧ Q' 87 14 = ((j + 1 : Nat) : Int)) ∧ (¬ (j < N ∧ Q 90 j = 61) → Q' = Q) := by
  unfold f_Q_next_J385
  rw [hN, hj]
  by_cases h1 : (N : Int) ≤ j
  · rw [if_pos h1]
    exact ⟨Q, rfl, fs_rf _ _ _, fun z => by omega, fun _ => rfl⟩
  · rw [if_neg h1, if_pos (by omega), tn_nat]
    by_cases h2 : Q 90 j = 61
    · rw [if_pos h2]
      have fin : ∀ v : Int, v = (if y = 60 then 300 else 301) → ∃ Q', (pm_bd (pm_ms Q 87 17 v) fun M828 => pm_bd (pm_ms M828 87 14 (i_ad (M828 87 14) 1)) fun M829 => some M829) = some Q' ∧ fs 87 [14, 17] Q Q' ∧ ((j < N ∧ Q 90 j = 61) → Q' 87 17 = (if y = 60 then 300 else 301) ∧ Q' 87 14 = ((j + 1 : Nat) : Int)) ∧ (¬ (j < N ∧ Q 90 j = 61) → Q' = Q) := by
        intro v hv
        refine ⟨_, rfl, fs_tr (fs_ms (by decide)) (fs_ms (by decide)), fun _ => ⟨?_, ?_⟩, fun z => absurd ⟨by omega, h2⟩ z⟩
        · rw [ms_nj _ _ _ _ (by omega), ms_at]; exact hv
        · rw [ms_at, ms_nj _ _ _ _ (by omega), hj, i_ad_eq (by omega)]; omega
      by_cases h3 : y = 60
      · rw [if_pos h3]; exact fin 300 (by rw [if_pos h3])
      · rw [if_neg h3]; exact fin 301 (by rw [if_neg h3])
    · rw [if_neg h2]
      exact ⟨Q, rfl, fs_rf _ _ _, fun z => absurd z.2 h2, fun _ => rfl⟩
/-- the token in hand -/
def TK (N : Nat) (X Q : pm_M) : Prop := X 66 3 = ckd (Q 87 16) (Q 87 17) ∧ X 66 5 = Q 87 15 ∧ X 66 6 = Q 87 14 ∧ (0 ≤ Q 87 16 ∧ Q 87 16 ≤ 4) ∧ (Q 87 16 = 1 → 0 ≤ Q 87 17 ∧ Q 87 17 ≤ 23) ∧ (Q 87 16 = 2 → nr (Q 87 17) (X 66 4)) ∧ ∃ p i : Nat, Q 87 15 = p ∧ Q 87 14 = i ∧ p ≤ i ∧ i ≤ N ∧ (Q 87 16 ≠ 0 → p < i)
def qT (v : Int) (Q : pm_M) : Option pm_M := if v = 60 then f_Q_next_J385 v Q else if v = 62 then f_Q_next_J385 v Q else some Q
def kS3 (v : Int) : Int := if (59 ≤ v ∧ v ≤ 62) ∨ (40 ≤ v ∧ v ≤ 45) ∨ v = 47 ∨ v = 35 then 3 else 4
theorem q_tail (v : Int) (M816 : pm_M) : (pm_bd (pm_ms M816 87 14 (i_ad (M816 87 14) 1)) fun M823 =>
        pm_bd (pm_ms M823 87 17 v) fun M824 =>
        (f_Q_in v 59 62 M824).bind fun r825 =>
        if r825 = 0 then (
          (f_Q_in v 40 45 M824).bind fun r826 =>
          if r826 = 0 then (
            if v = 47 then (pm_bd (pm_ms M824 87 16 3) fun M827 => qT v M827)
            else (
              if v = 35 then (pm_bd (pm_ms M824 87 16 3) fun M832 => qT v M832)
              else (pm_bd (pm_ms M824 87 16 4) fun M833 => qT v M833)))
          else (pm_bd (pm_ms M824 87 16 3) fun M834 => qT v M834))
        else (pm_bd (pm_ms M824 87 16 3) fun M835 => qT v M835)) = qT v (pm_ms (pm_ms (pm_ms M816 87 14 (i_ad (M816 87 14) 1)) 87 17 v) 87 16 (kS3 v)) := by
  rw [pbd, pbd, f_Q_in_eq, ob, f_Q_in_eq, ob]
  unfold kS3
  by_cases h1 : 59 ≤ v ∧ v ≤ 62
  · rw [if_pos h1, if_neg (by omega), if_pos (Or.inl h1), pbd]
  · rw [if_neg h1, if_pos rfl]
    by_cases h2 : 40 ≤ v ∧ v ≤ 45
    · rw [if_pos h2, if_neg (by omega), if_pos (by omega), pbd]
    · rw [if_neg h2, if_pos rfl]
      by_cases h3 : v = 47
      · rw [if_pos h3, if_pos (by omega), pbd]
      · rw [if_neg h3]
        by_cases h4 : v = 35
        · rw [if_pos h4, if_pos (by omega), pbd]
        · rw [if_neg h4, if_neg (by omega), pbd]
/-- a sign, both -/
theorem b_sign {X Q : pm_M} {N j : Nat} (hT : TPX X Q N) (hj : j < N) (hX : X 66 6 = j) (hX5 : X 66 5 = j) (hQ : Q 87 14 = j) (hQ5 : Q 87 15 = j) : ∃ X' Q', f_Reader_sign (i_2c (X 38 j)) X = some X' ∧ qT (Q 90 j) (pm_ms (pm_ms (pm_ms Q 87 14 (i_ad (Q 87 14) 1)) 87 17 (Q 90 j)) 87 16 (kS3 (Q 90 j))) = some Q' ∧ TK N X' Q' ∧ fs 66 [3, 4, 5, 6] X X' ∧ fs 87 [14, 16, 17] Q Q' := by
  have hb := hT.2.2.2 j hj
  have h3 := hT.2.1
  obtain ⟨n, hn⟩ : ∃ n : Nat, X 38 j = n := ⟨(X 38 j).toNat, by omega⟩
  have hn2 : n < 256 := by omega
  obtain ⟨X', x1, x2, x3, x4⟩ := x_sign (n := n) hT.1 h3 hj hX hn2
  obtain ⟨_, _, _, _, s5⟩ := sg_t ⟨n, hn2⟩
  have s5 : sg n = 39 ∨ (59 ≤ n ∧ n ≤ 62) ∨ (40 ≤ n ∧ n ≤ 45) ∨ n = 47 ∨ n = 35 := s5
  rw [hn]
  refine ⟨X', ?_⟩
  generalize hQ4 : pm_ms (pm_ms (pm_ms Q 87 14 (i_ad (Q 87 14) 1)) 87 17 (Q 90 j)) 87 16 (kS3 (Q 90 j)) = Q4
  have q16 : Q4 87 16 = kS3 (Q 90 j) := by rw [← hQ4, ms_at]
  have q17 : Q4 87 17 = Q 90 j := by rw [← hQ4, ms_nj _ _ _ _ (by omega), ms_at]
  have q14 : Q4 87 14 = ((j + 1 : Nat) : Int) := by rw [← hQ4, ms_nj _ _ _ _ (by omega), ms_nj _ _ _ _ (by omega), ms_at, hQ, i_ad_eq (by omega)]; omega
  have fq : fs 87 [14, 16, 17] Q Q4 := by rw [← hQ4]; exact fs_tr (fs_tr (fs_ms (by decide)) (fs_ms (by decide))) (fs_ms (by decide))
  have q13 : Q4 87 13 = N := by rw [fq.2 13 (by decide)]; exact hT.2.2.1
  have q15 : Q4 87 15 = j := by rw [fq.2 15 (by decide)]; exact hQ5
  have q90 : Q4 90 = Q 90 := fs_o fq (by omega)
  have x5 : X' 66 5 = j := by rw [x2.2 5 (by decide)]; exact hX5
  have fx : fs 66 [3, 4, 5, 6] X X' := fs_mo x2 (by decide)
  unfold qT
  have hk : ∀ (Q' : pm_M) (i : Nat), fs 87 [14, 17] Q4 Q' → X' 66 6 = i → Q' 87 14 = i → j < i → i ≤ N → X' 66 3 = ckd (Q4 87 16) (Q' 87 17) → TK N X' Q' ∧ fs 66 [3, 4, 5, 6] X X' ∧ fs 87 [14, 16, 17] Q Q' := by
    intro Q' i f e1 e2 e3 e4 e5
    have e16 : Q' 87 16 = kS3 (Q 90 j) := by rw [f.2 16 (by decide)]; exact q16
    have e15 : Q' 87 15 = j := by rw [f.2 15 (by decide)]; exact q15
    have k34 : kS3 (Q 90 j) = 3 ∨ kS3 (Q 90 j) = 4 := by unfold kS3; split <;> omega
    exact ⟨⟨by rw [e16, ← q16]; exact e5, by rw [x5, e15], by rw [e1, e2], by omega, fun z => by omega, fun z => by omega, j, i, e15, e2, by omega, e4, fun _ => e3⟩, fx, fs_tr fq (fs_mo f (by decide))⟩
  by_cases hs : n = 60 ∨ n = 62
  · have hv : Q 90 j = n := by omega
    have hk3 : kS3 (Q 90 j) = 3 := by unfold kS3; rw [if_pos (by omega)]
    obtain ⟨Q', y1, y2, y3, y4⟩ := q_385 (y := Q 90 j) q13 h3 q14 (by omega)
    have eT : (if Q 90 j = 60 then f_Q_next_J385 (Q 90 j) Q4 else if Q 90 j = 62 then f_Q_next_J385 (Q 90 j) Q4 else some Q4) = some Q' := by
      rcases hs with e | e
      · rw [if_pos (by omega), y1]
      · rw [if_neg (by omega), if_pos (by omega), y1]
    refine ⟨Q', x1, eT, ?_⟩
    by_cases h61 : j + 1 < N ∧ Q4 90 (j + 1) = 61
    · have ht : tc X (j + 1) = 61 := by
        unfold tc
        have := hT.2.2.2 (j + 1) h61.1
        rw [q90] at h61
        rw [if_neg (by rw [hT.1]; omega)]
        omega
      have a := (x3 hs).1 ht
      have b := y3 h61
      refine hk Q' (j + 2) y2 a.2 b.2 (by omega) (by omega) ?_
      rw [a.1, b.1, q16, hk3]
      rcases hs with e | e
      · rw [if_pos e, if_pos (by omega)]; rfl
      · rw [if_neg (by omega), if_neg (by omega)]; rfl
    · have ht : tc X (j + 1) ≠ 61 := by
        unfold tc
        by_cases z : j + 1 < N
        · have := hT.2.2.2 (j + 1) z
          rw [if_neg (by rw [hT.1]; omega)]
          rw [q90] at h61
          omega
        · rw [if_pos (by rw [hT.1]; omega)]; omega
      have a := (x3 hs).2 ht
      have b := y4 h61
      rw [b] at y2 ⊢
      refine hk Q4 (j + 1) y2 a.2 q14 (by omega) (by omega) ?_
      rw [a.1, q17, q16, hk3, hv]
      rfl
  · have a := x4 hs
    refine ⟨Q4, x1, by rw [if_neg (by omega), if_neg (by omega)], hk Q4 (j + 1) (fs_rf _ _ _) a.2 q14 (by omega) (by omega) ?_⟩
    rw [a.1, q17, q16]
    by_cases hv : (59 ≤ Q 90 j ∧ Q 90 j ≤ 62) ∨ (40 ≤ Q 90 j ∧ Q 90 j ≤ 45) ∨ Q 90 j = 47 ∨ Q 90 j = 35
    · rw [show kS3 (Q 90 j) = 3 by unfold kS3; rw [if_pos hv], show Q 90 j = n by omega]
      rfl
    · rw [show kS3 (Q 90 j) = 4 by unfold kS3; rw [if_neg hv]]
      rcases s5 with e | e
      · rw [e]; rfl
      · omega
theorem WL_len : (wfd WL).length = 120 := by decide +kernel
/-- the next token, both -/
theorem b_next {X Q : pm_M} {N i : Nat} (hT : TPX X Q N) (hX : X 66 6 = i) (hQ : Q 87 14 = i) (hi : i ≤ N) : ∃ X' Q', f_Reader_advance X = some X' ∧ f_Q_next Q = some Q' ∧ TK N X' Q' ∧ (∃ p : Nat, Q' 87 15 = p ∧ i ≤ p) ∧ fs 66 [3, 4, 5, 6] X X' ∧ fs 87 [14, 15, 16, 17] Q Q' := by
  have h3 := hT.2.1
  obtain ⟨j, X1, Q1, a1, a2, a3, a4, a5, a6, a7, a8⟩ := b_skip (N - i) i pm_F pm_F X Q hT (by omega) hX hQ (by unfold pm_F; omega) (by unfold pm_F; omega)
  unfold f_Reader_advance f_Q_next
  rw [a1, ob, a2, ob]
  unfold f_Q_next_J52
  rw [pbd (pm_ms X1 66 5 (X1 66 6)), pbd (pm_ms Q1 87 15 (Q1 87 14)), a5, a6]
  generalize hX2 : pm_ms X1 66 5 (j : Int) = X2
  generalize hQ2 : pm_ms Q1 87 15 (j : Int) = Q2
  have fx : fs 66 [3, 4, 5, 6] X X2 := by rw [← hX2]; exact fs_tr (fs_mo a7 (by decide)) (fs_ms (by decide))
  have fq : fs 87 [14, 15, 16, 17] Q Q2 := by rw [← hQ2]; exact fs_tr (fs_mo a8 (by decide)) (fs_ms (by decide))
  have hT2 : TPX X2 Q2 N := TPX_fs hT fx fq (by decide)
  have x5 : X2 66 5 = j := by rw [← hX2, ms_at]
  have x6 : X2 66 6 = j := by rw [← hX2, ms_nj _ _ _ _ (by omega)]; exact a5
  have q15 : Q2 87 15 = j := by rw [← hQ2, ms_at]
  have q14 : Q2 87 14 = j := by rw [← hQ2, ms_nj _ _ _ _ (by omega)]; exact a6
  rw [q14, hT2.2.2.1, x5, x_tape hT2.1 h3, ob]
  by_cases hjN : j = N
  · have ht : tc X2 j = -1 := by unfold tc; rw [if_pos (by rw [hT2.1]; omega)]
    rw [ht, if_pos rfl, if_pos (by omega), pbd, pbd]
    refine ⟨_, _, rfl, rfl, ⟨?_, ?_, ?_, ?_, ?_, ?_, j, j, ?_, ?_, by omega, by omega, ?_⟩, ⟨j, ?_, a3⟩, fs_tr fx (fs_ms (by decide)), fs_tr fq (fs_ms (by decide))⟩
    · rw [ms_at, ms_at]; rfl
    · rw [ms_nj _ _ _ _ (by omega), ms_nj _ _ _ _ (by omega), x5, q15]
    · rw [ms_nj _ _ _ _ (by omega), ms_nj _ _ _ _ (by omega), x6, q14]
    · rw [ms_at]; omega
    · intro z; rw [ms_at] at z; omega
    · intro z; rw [ms_at] at z; omega
    · rw [ms_nj _ _ _ _ (by omega)]; exact q15
    · rw [ms_nj _ _ _ _ (by omega)]; exact q14
    · intro z; rw [ms_at] at z; omega
    · rw [ms_nj _ _ _ _ (by omega)]; exact q15
  · have hj : j < N := by omega
    have hb := hT2.2.2.2 j hj
    have ht : tc X2 j = X2 38 j := by unfold tc; rw [if_neg (by rw [hT2.1]; omega)]
    rw [ht, if_neg (by omega), if_neg (by omega), if_pos (show (0 : Int) ≤ (j : Int) ∧ (j : Int) < 300 by omega), tn_nat, pbd (Q2 90 j), lr_x, ob, lr_q, ob]
    by_cases hL : (97 ≤ Q2 90 j ∧ Q2 90 j ≤ 122) ∨ (65 ≤ Q2 90 j ∧ Q2 90 j ≤ 90)
    · rw [if_pos (show (97 ≤ X2 38 j ∧ X2 38 j ≤ 122) ∨ (65 ≤ X2 38 j ∧ X2 38 j ≤ 90) by omega), if_pos hL, if_neg (by omega), if_neg (by omega)]
      obtain ⟨l, y, X3, Q3, b1, b2, b3, b4, b5, b6, b7, b8, b9, b10, b11⟩ := b_let (p := j) (N - j) 0 pm_F pm_F 0 X2 Q2 hT2 (by omega) x6 q14 (fun _ => rfl) (fun a ha => by omega) (by unfold pm_F; omega) (by unfold pm_F; omega)
      have hl := b4 hj hL
      rw [show ((0 : Nat) : Int) = 0 from rfl] at b2
      unfold f_Reader_word
      rw [b1, ob, b2, ob, pbd]
      show ∃ X' Q', _ ∧ f_Q_next_J173 y l Q3 = some Q' ∧ _
      generalize hX4 : pm_ms X3 66 3 39 = X4
      have g3 : X4 66 3 = 39 := by rw [← hX4, ms_at]
      have f4 : fs 66 [3, 6] X2 X4 := by rw [← hX4]; exact fs_tr (fs_mo b10 (by decide)) (fs_ms (by decide))
      have g5 : X4 66 5 = j := by rw [f4.2 5 (by decide)]; exact x5
      have g6 : X4 66 6 = ((j + l : Nat) : Int) := by rw [← hX4, ms_nj _ _ _ _ (by omega)]; exact b6
      have gN : X4 37 1 = N := by rw [fs_o f4 (a := 37) (by omega)]; exact hT2.1
      obtain ⟨X5, c1, c2, c3, c4⟩ := x_wds g5 g6 gN h3 (by omega) WL [] pm_F 0 WL_fd WL_32 (by decide) g3 (by rw [WL_len]; unfold pm_F; omega)
      rw [show ((0 : Nat) : Int) = 0 from rfl, show (([] : List Int).length : Int) = 0 from rfl] at c1
      rw [c1, ob, ob]
      rw [tc_fs f4] at c2
      have f5 : fs 66 [3, 6] X2 X5 := fs_tr f4 ⟨c4, fun k hk => c3 k (fun z => hk (by rw [z]; decide))⟩
      have h15 : Q3 87 15 = j := by rw [b11.2 15 (by decide)]; exact q15
      have hall : ∀ c ∈ lt (tc X2) j l, lt6 c := lt_all l j b9
      have done : ∀ (u k : Int), (u = -1 ∧ k = 4 ∧ wfl (lt (tc X2) j l) WL 0 = 39) ∨ (u = wfl (lt (tc X2) j l) WL 0 ∧ k = 1 ∧ 0 ≤ u ∧ u ≤ 23) → f_Q_next_J173 y l Q3 = some (pm_ms (pm_ms Q3 87 17 u) 87 16 k) → ∃ X' Q', some X5 = some X' ∧ f_Q_next_J173 y l Q3 = some Q' ∧ TK N X' Q' ∧ (∃ p : Nat, Q' 87 15 = p ∧ i ≤ p) ∧ fs 66 [3, 4, 5, 6] X X' ∧ fs 87 [14, 15, 16, 17] Q Q' := by
        intro u k hu e
        have d15 : pm_ms (pm_ms Q3 87 17 u) 87 16 k 87 15 = j := by rw [ms_nj _ _ _ _ (by omega), ms_nj _ _ _ _ (by omega)]; exact h15
        have d14 : pm_ms (pm_ms Q3 87 17 u) 87 16 k 87 14 = ((j + l : Nat) : Int) := by rw [ms_nj _ _ _ _ (by omega), ms_nj _ _ _ _ (by omega)]; exact b7
        have d16 : pm_ms (pm_ms Q3 87 17 u) 87 16 k 87 16 = k := ms_at _ _ _ _
        have d17 : pm_ms (pm_ms Q3 87 17 u) 87 16 k 87 17 = u := by rw [ms_nj _ _ _ _ (by omega), ms_at]
        refine ⟨X5, _, rfl, e, ⟨?_, ?_, ?_, ?_, ?_, ?_, j, j + l, d15, d14, by omega, b5, fun _ => by omega⟩, ⟨j, d15, a3⟩, fs_tr fx (fs_mo f5 (by decide)), fs_tr fq (fs_tr (fs_mo b11 (by decide)) (fs_tr (fs_ms (by decide)) (fs_ms (by decide))))⟩
        · rw [d16, d17, c2]
          rcases hu with ⟨h1, h2, h4⟩ | ⟨h1, h2, h4⟩
          · rw [h2, h4]; rfl
          · rw [h2, ← h1]; rfl
        · rw [d15, c3 5 (by omega), g5]
        · rw [d14, c3 6 (by omega), g6]
        · rw [d16]; omega
        · rw [d16, d17]; intro z; omega
        · rw [d16]; intro z; omega
      by_cases h7 : (l : Int) ≤ 7
      · have hk := kfl_wfl hall WL 0 WL_6 (by decide)
        have hy := b8 (by omega)
        have eJ : f_Q_next_J173 y l Q3 = (pm_bd (pm_ms Q3 87 17 (kfl (pk (lt (tc X2) j l) 0) WL 0)) fun M849 => if 0 ≤ (M849 87 17) then (pm_bd (pm_ms M849 87 16 1) fun M850 => some M850) else (pm_bd (pm_ms M849 87 16 4) fun M851 => some M851)) := by
          unfold f_Q_next_J173
          rw [if_pos h7, q_wordOf, ob, hy]
        rw [pbd, ms_at] at eJ
        rcases hk with ⟨k1, k2⟩ | ⟨k1, k2, k3⟩
        · rw [k1, if_neg (by omega)] at eJ
          exact done (-1) 4 (Or.inl ⟨rfl, rfl, k2⟩) eJ
        · rw [k1, if_pos (by omega)] at eJ
          exact done _ 1 (Or.inr ⟨rfl, rfl, k2, k3⟩) eJ
      · have eJ : f_Q_next_J173 y l Q3 = (pm_bd (pm_ms Q3 87 17 (-1)) fun M849 => if 0 ≤ (M849 87 17) then (pm_bd (pm_ms M849 87 16 1) fun M850 => some M850) else (pm_bd (pm_ms M849 87 16 4) fun M851 => some M851)) := by
          unfold f_Q_next_J173
          rw [if_neg h7]
        rw [pbd, ms_at, if_neg (by omega)] at eJ
        exact done (-1) 4 (Or.inl ⟨rfl, rfl, wfl_long WL 0 WL_7 (by rw [lt_len]; omega)⟩) eJ
    · rw [if_neg (show ¬ ((97 ≤ X2 38 j ∧ X2 38 j ≤ 122) ∨ (65 ≤ X2 38 j ∧ X2 38 j ≤ 90)) by omega), if_neg hL, if_pos rfl, if_pos rfl, dg_x, ob, f_Q_in_eq, ob]
      by_cases hD : 48 ≤ Q2 90 j ∧ Q2 90 j ≤ 57
      · rw [if_pos (show 48 ≤ X2 38 j ∧ X2 38 j ≤ 57 by omega), if_pos hD, if_neg (by omega), if_neg (by omega)]
        unfold f_Reader_digits
        rw [pbd, pbd, pbd, pbd]
        generalize hX3 : pm_ms (pm_ms X2 66 3 37) 66 4 0 = X3
        generalize hQ3 : pm_ms (pm_ms Q2 87 16 2) 87 17 0 = Q3
        have f3 : fs 66 [3, 4, 5, 6] X2 X3 := by rw [← hX3]; exact fs_tr (fs_ms (by decide)) (fs_ms (by decide))
        have f4 : fs 87 [14, 15, 16, 17] Q2 Q3 := by rw [← hQ3]; exact fs_tr (fs_ms (by decide)) (fs_ms (by decide))
        have u4 : X3 66 4 = 0 := by rw [← hX3, ms_at]
        have u17 : Q3 87 17 = 0 := by rw [← hQ3, ms_at]
        have u3 : X3 66 3 = 37 := by rw [← hX3, ms_nj _ _ _ _ (by omega), ms_at]
        have u16 : Q3 87 16 = 2 := by rw [← hQ3, ms_nj _ _ _ _ (by omega), ms_at]
        have u6 : X3 66 6 = j := by rw [← hX3, ms_nj _ _ _ _ (by omega), ms_nj _ _ _ _ (by omega)]; exact x6
        have u5 : X3 66 5 = j := by rw [← hX3, ms_nj _ _ _ _ (by omega), ms_nj _ _ _ _ (by omega)]; exact x5
        have u14 : Q3 87 14 = j := by rw [← hQ3, ms_nj _ _ _ _ (by omega), ms_nj _ _ _ _ (by omega)]; exact q14
        have u15 : Q3 87 15 = j := by rw [← hQ3, ms_nj _ _ _ _ (by omega), ms_nj _ _ _ _ (by omega)]; exact q15
        have u90 : Q3 90 = Q2 90 := fs_o f4 (by omega)
        obtain ⟨i2, X4, Q4, c1, c2, c3, c4, c5, c6, c7, c8, c9, c10⟩ := b_dig (N - j) j pm_F pm_F X3 Q3 (TPX_fs hT2 f3 f4 (by decide)) (by omega) u6 u14 (by rw [u17, u4]; exact ⟨by omega, by omega, rfl⟩) (by unfold pm_F; omega) (by unfold pm_F; omega)
        rw [c1, ob, ob, c2, ob]
        have c4' := c4 hj (by rw [u90]; exact hD)
        have w15 : Q4 87 15 = j := by rw [c10.2 15 (by decide)]; exact u15
        have w16 : Q4 87 16 = 2 := by rw [c10.2 16 (by decide)]; exact u16
        refine ⟨X4, Q4, rfl, rfl, ⟨?_, ?_, ?_, ?_, ?_, ?_, j, i2, w15, c7, by omega, c5, fun _ => c4'⟩, ⟨j, w15, a3⟩, fs_tr fx (fs_tr f3 (fs_mo c9 (by decide))), fs_tr fq (fs_tr f4 (fs_mo c10 (by decide)))⟩
        · rw [w16, c9.2 3 (by decide), u3]; rfl
        · rw [w15, c9.2 5 (by decide), u5]
        · rw [c6, c7]
        · omega
        · omega
        · exact fun _ => c8
      · rw [if_neg (show ¬ (48 ≤ X2 38 j ∧ X2 38 j ≤ 57) by omega), if_neg hD, if_pos rfl, if_pos rfl]
        obtain ⟨X', Q', c1, c2, c3, c4, c5⟩ := b_sign hT2 hj x6 x5 q14 q15
        rw [← q_tail, q14] at c2
        refine ⟨X', Q', by rw [c1, ob], c2, c3, ⟨j, by rw [c5.2 15 (by decide)]; exact q15, a3⟩, fs_tr fx c4, fs_tr fq (fs_mo c5 (by decide))⟩
