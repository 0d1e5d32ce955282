/-! TOKENS of a text: the two readers side by side (class memory X, reference memory Q) -/
def fs (c : Nat) (S : List Nat) (M M' : pm_M) : Prop := fr [c] M M' ∧ ∀ k, k ∉ S → M' c k = M c k
theorem fs_rf (c : Nat) (S : List Nat) (M : pm_M) : fs c S M M := ⟨fr_rf _ _, fun _ _ => rfl⟩
theorem fs_tr {c : Nat} {S : List Nat} {M M1 M2 : pm_M} (h1 : fs c S M M1) (h2 : fs c S M1 M2) : fs c S M M2 := ⟨fr_tr h1.1 h2.1 (fun _ h => h) (fun _ h => h), fun k hk => (h2.2 k hk).trans (h1.2 k hk)⟩
theorem fs_mo {c : Nat} {S T : List Nat} {M M1 : pm_M} (h : fs c S M M1) (s : ∀ k ∈ S, k ∈ T) : fs c T M M1 := ⟨h.1, fun k hk => h.2 k (fun z => hk (s k z))⟩
theorem fs_ms {c i : Nat} {S : List Nat} {M : pm_M} {x : Int} (h : i ∈ S) : fs c S M (pm_ms M c i x) := ⟨fr_ms (List.mem_singleton.mpr rfl), fun k hk => ms_nj M c i x (fun z => hk (z ▸ h))⟩
theorem fs_o {c a : Nat} {S : List Nat} {M M1 : pm_M} (h : fs c S M M1) (hc : a ≠ c) : M1 a = M a := h.1 a (fun z => hc (List.mem_singleton.mp z))
/-- the two tapes -/
def TPX (X Q : pm_M) (N : Nat) : Prop := X 37 1 = N ∧ N ≤ 300 ∧ Q 87 13 = N ∧ ∀ k : Nat, k < N → X 38 k = (Q 90 k) % 256 ∧ -128 ≤ Q 90 k ∧ Q 90 k < 128
theorem TPX_fs {X Q X' Q' : pm_M} {N : Nat} {S T : List Nat} (h : TPX X Q N) (hx : fs 66 S X X') (hq : fs 87 T Q Q') (hT : 13 ∉ T) : TPX X' Q' N := by
  unfold TPX
  rw [fs_o hx (a := 37) (by omega), fs_o hx (a := 38) (by omega), fs_o hq (a := 90) (by omega), hq.2 13 hT]
  exact h
theorem tc_fs {X X' : pm_M} {S : List Nat} (hx : fs 66 S X X') : tc X' = tc X := by
  funext j
  unfold tc
  rw [fs_o hx (a := 37) (by omega), fs_o hx (a := 38) (by omega)]
/-- blanks -/
theorem b_skip {N : Nat} : ∀ (k i n m : Nat) (X Q : pm_M), TPX X Q N → i + k = N → X 66 6 = i → Q 87 14 = i → k < n → k < m →
    ∃ (j : Nat) (X' Q' : pm_M), f_Reader_advance_L0 n X = some X' ∧ f_Q_next_L0 m Q = some Q' ∧ i ≤ j ∧ j ≤ N ∧ X' 66 6 = j ∧ Q' 87 14 = j ∧ fs 66 [6] X X' ∧ fs 87 [14] Q Q' := by
  intro k
  induction k with
  | zero =>
    intro i n m X Q hT hi hX hQ hn hm
    obtain ⟨n, rfl⟩ : ∃ a, n = a + 1 := ⟨n - 1, by omega⟩
    obtain ⟨m, rfl⟩ : ∃ a, m = a + 1 := ⟨m - 1, by omega⟩
    refine ⟨i, X, Q, ?_, ?_, Nat.le_refl _, by omega, hX, hQ, fs_rf _ _ _, fs_rf _ _ _⟩
    · rw [f_Reader_advance_L0]
      unfold f_Tape_length
      rw [ob, hX, hT.1, if_pos (by omega)]
    · rw [f_Q_next_L0, hT.2.2.1, hQ, if_pos (by omega)]
  | succ k ih =>
    intro i n m X Q hT hi hX hQ hn hm
    obtain ⟨n, rfl⟩ : ∃ a, n = a + 1 := ⟨n - 1, by omega⟩
    obtain ⟨m, rfl⟩ : ∃ a, m = a + 1 := ⟨m - 1, by omega⟩
    have hb := hT.2.2.2 i (by omega)
    have h3 := hT.2.1
    have ht : tc X i = X 38 i := by unfold tc; rw [if_neg (by rw [hT.1]; omega)]
    have step : ∃ (j : Nat) (X' Q' : pm_M), f_Reader_advance_L0 n (pm_ms X 66 6 ((i : Int) + 1)) = some X' ∧ f_Q_next_L0 m (pm_ms Q 87 14 ((i : Int) + 1)) = some Q' ∧ i ≤ j ∧ j ≤ N ∧ X' 66 6 = j ∧ Q' 87 14 = j ∧ fs 66 [6] X X' ∧ fs 87 [14] Q Q' := by
      have f1 : fs 66 [6] X (pm_ms X 66 6 ((i : Int) + 1)) := fs_ms (by decide)
      have f2 : fs 87 [14] Q (pm_ms Q 87 14 ((i : Int) + 1)) := fs_ms (by decide)
      obtain ⟨j, X', Q', a1, a2, a3, a4, a5, a6, a7, a8⟩ := ih (i + 1) n m _ _ (TPX_fs hT f1 f2 (by decide)) (by omega) (by rw [ms_at]; omega) (by rw [ms_at]; omega) (by omega) (by omega)
      exact ⟨j, X', Q', a1, a2, by omega, a4, a5, a6, fs_tr f1 a7, fs_tr f2 a8⟩
    rw [f_Reader_advance_L0, f_Q_next_L0]
    unfold f_Tape_length
    rw [ob, hX, hT.1, hT.2.2.1, hQ, if_neg (by omega), if_neg (by omega), if_pos (by omega), tn_nat, x_tape hT.1 h3, ob, ob, ht, i_ad_eq (by omega)]
    by_cases h32 : Q 90 i = 32
    · rw [if_pos (by omega), if_pos h32]
      exact step
    · rw [if_neg (by omega), if_neg h32, if_pos (show (0 : Int) ≤ (i : Int) ∧ (i : Int) < 300 by omega)]
      by_cases h10 : Q 90 i = 10
      · rw [if_pos (by omega), if_pos h10]
        exact step
      · rw [if_neg (by omega), if_neg h10]
        exact ⟨i, X, Q, rfl, rfl, Nat.le_refl _, by omega, hX, hQ, fs_rf _ _ _, fs_rf _ _ _⟩
def nr (u v : Int) : Prop := 0 ≤ u ∧ u ≤ 999999 ∧ v = i_mn u 10000
theorem dg_x (c : Int) (M : pm_M) : f_Reader_isDigit c M = some (if 48 ≤ c ∧ c ≤ 57 then 1 else 0) := by
  unfold f_Reader_isDigit
  by_cases h1 : c < 48
  · rw [if_pos h1, if_neg (by omega)]
  · rw [if_neg h1]
    by_cases h2 : 57 < c
    · rw [if_pos h2, if_neg (by omega)]
    · rw [if_neg h2, if_pos (by omega)]
def isL (c : Int) : Prop := (97 ≤ c ∧ c ≤ 122) ∨ (65 ≤ c ∧ c ≤ 90)
theorem lr_x (c : Int) (M : pm_M) : f_Reader_isLetter c M = some (if (97 ≤ c ∧ c ≤ 122) ∨ (65 ≤ c ∧ c ≤ 90) then 1 else 0) := by
  unfold f_Reader_isLetter
  by_cases h : (97 ≤ c ∧ c ≤ 122) ∨ (65 ≤ c ∧ c ≤ 90)
  · rw [if_pos h]
    rcases h with h | h
    · rw [if_neg (by omega), if_pos (by omega)]
    · rw [if_pos (by omega), if_neg (by omega), if_neg (by omega)]
  · rw [if_neg h]
    by_cases h1 : c < 97
    · rw [if_pos h1]
      by_cases h2 : c < 65
      · rw [if_pos h2]
      · rw [if_neg h2, if_pos (by omega)]
    · rw [if_neg h1, if_neg (by omega), if_neg (by omega), if_pos (by omega)]
theorem lr_q (c : Int) (M : pm_M) : f_Q_isLetter c M = some (if (97 ≤ c ∧ c ≤ 122) ∨ (65 ≤ c ∧ c ≤ 90) then 1 else 0) := by
  unfold f_Q_isLetter
  rw [f_Q_in_eq, ob]
  by_cases h1 : 97 ≤ c ∧ c ≤ 122
  · rw [if_pos h1, if_neg (by omega), if_pos (Or.inl h1)]
  · rw [if_neg h1, if_pos rfl, f_Q_in_eq, ob]
    by_cases h2 : 65 ≤ c ∧ c ≤ 90
    · rw [if_pos h2, if_neg (by omega), if_pos (Or.inr h2)]
    · rw [if_neg h2, if_pos rfl, if_neg (by omega)]
/-- digits -/
theorem b_dig {N : Nat} : ∀ (k i n m : Nat) (X Q : pm_M), TPX X Q N → i + k = N → X 66 6 = i → Q 87 14 = i → nr (Q 87 17) (X 66 4) → k < n → k < m →
    ∃ (j : Nat) (X' Q' : pm_M), f_Reader_digits_L11 n X = some X' ∧ f_Q_next_L232 m Q = some Q' ∧ i ≤ j ∧ (i < N → (48 ≤ Q 90 i ∧ Q 90 i ≤ 57) → i < j) ∧ j ≤ N ∧ X' 66 6 = j ∧ Q' 87 14 = j ∧ nr (Q' 87 17) (X' 66 4) ∧ fs 66 [4, 6] X X' ∧ fs 87 [14, 17] Q Q' := by
  intro k
  induction k with
  | zero =>
    intro i n m X Q hT hi hX hQ hr hn hm
    obtain ⟨n, rfl⟩ : ∃ a, n = a + 1 := ⟨n - 1, by omega⟩
    obtain ⟨m, rfl⟩ : ∃ a, m = a + 1 := ⟨m - 1, by omega⟩
    refine ⟨i, X, Q, ?_, ?_, Nat.le_refl _, fun h => by omega, by omega, hX, hQ, hr, fs_rf _ _ _, fs_rf _ _ _⟩
    · rw [f_Reader_digits_L11]
      unfold f_Tape_length
      rw [ob, hX, hT.1, if_pos (by omega)]
    · rw [f_Q_next_L232, hT.2.2.1, hQ, if_pos (by omega)]
  | succ k ih =>
    intro i n m X Q hT hi hX hQ hr hn hm
    obtain ⟨n, rfl⟩ : ∃ a, n = a + 1 := ⟨n - 1, by omega⟩
    obtain ⟨m, rfl⟩ : ∃ a, m = a + 1 := ⟨m - 1, by omega⟩
    have hb := hT.2.2.2 i (by omega)
    have h3 := hT.2.1
    have ht : tc X i = X 38 i := by unfold tc; rw [if_neg (by rw [hT.1]; omega)]
    obtain ⟨r1, r2, r3⟩ := hr
    have r4 : 0 ≤ X 66 4 ∧ X 66 4 ≤ 10000 := by rw [r3]; unfold i_mn; split <;> omega
    rw [f_Reader_digits_L11, f_Q_next_L232]
    unfold f_Tape_length
    rw [ob, hX, hT.1, hT.2.2.1, hQ, if_neg (by omega), if_neg (by omega), if_pos (by omega), tn_nat, x_tape hT.1 h3, ob, ob, ht, dg_x, f_Q_in_eq, ob, ob]
    by_cases hd : 48 ≤ Q 90 i ∧ Q 90 i ≤ 57
    · rw [if_pos (show 48 ≤ X 38 i ∧ X 38 i ≤ 57 by omega), if_pos hd, if_neg (by omega), if_neg (by omega), i_ml_eq (a := X 66 4) (by omega), i_ad_eq (a := X 66 4 * 10) (by omega), i_sb_eq (a := X 66 4 * 10 + X 38 i) (by omega)]
      have e8 : X 38 i = Q 90 i := by omega
      rw [e8]
      have go : ∀ (u' : Int) (Q1 : pm_M), nr u' (i_mn (X 66 4 * 10 + Q 90 i - 48) 10000) → Q1 87 17 = u' → Q1 87 14 = i → fs 87 [14, 17] Q Q1 → ∃ (j : Nat) (X' Q' : pm_M), (pm_bd (pm_ms X 66 4 (i_mn (X 66 4 * 10 + Q 90 i - 48) 10000)) fun M212 => pm_bd (pm_ms M212 66 6 (i_ad (M212 66 6) 1)) fun M213 => f_Reader_digits_L11 n M213) = some X' ∧ f_Q_next_L232 m (pm_ms Q1 87 14 (i_ad (Q1 87 14) 1)) = some Q' ∧ i ≤ j ∧ (i < N → (48 ≤ Q 90 i ∧ Q 90 i ≤ 57) → i < j) ∧ j ≤ N ∧ X' 66 6 = j ∧ Q' 87 14 = j ∧ nr (Q' 87 17) (X' 66 4) ∧ fs 66 [4, 6] X X' ∧ fs 87 [14, 17] Q Q' := by
        intro u' Q1 hu h17 h14 hq
        generalize hX1 : pm_ms X 66 4 (i_mn (X 66 4 * 10 + Q 90 i - 48) 10000) = X1
        have g1 : fs 66 [4, 6] X X1 := by rw [← hX1]; exact fs_ms (by decide)
        have g2 : X1 66 4 = i_mn (X 66 4 * 10 + Q 90 i - 48) 10000 := by rw [← hX1, ms_at]
        have g3 : X1 66 6 = i := by rw [← hX1, ms_nj _ _ _ _ (by omega)]; exact hX
        show ∃ (j : Nat) (X' Q' : pm_M), f_Reader_digits_L11 n (pm_ms X1 66 6 (i_ad (X1 66 6) 1)) = some X' ∧ _
        rw [g3, h14, i_ad_eq (by omega)]
        have f1 : fs 66 [4, 6] X (pm_ms X1 66 6 ((i : Int) + 1)) := fs_tr g1 (fs_ms (by decide))
        have f2 : fs 87 [14, 17] Q (pm_ms Q1 87 14 ((i : Int) + 1)) := fs_tr hq (fs_ms (by decide))
        obtain ⟨j, X', Q', a1, a2, a3, _, a4, a5, a6, a7, a8, a9⟩ := ih (i + 1) n m _ _ (TPX_fs hT f1 f2 (by decide)) (by omega) (by rw [ms_at]; omega) (by rw [ms_at]; omega) (by rw [ms_nj _ _ _ _ (by omega), ms_nj _ _ _ _ (by omega), g2, h17]; exact hu) (by omega) (by omega)
        exact ⟨j, X', Q', a1, a2, by omega, fun _ _ => by omega, a4, a5, a6, a7, fs_tr f1 a8, fs_tr f2 a9⟩
      by_cases h9 : Q 87 17 ≤ 99999
      · rw [if_pos h9, if_pos (by omega), i_ml_eq (a := 10) (by omega), i_ad_eq (a := 10 * Q 87 17) (by omega), i_sb_eq (a := 10 * Q 87 17 + Q 90 i) (by omega)]
        refine go (10 * Q 87 17 + Q 90 i - 48) (pm_ms Q 87 17 (10 * Q 87 17 + Q 90 i - 48)) ⟨by omega, by omega, ?_⟩ (by rw [ms_at]) (by rw [ms_nj _ _ _ _ (by omega)]; exact hQ) (fs_ms (by decide))
        rw [r3]
        unfold i_mn
        by_cases z : 10000 < Q 87 17
        · rw [if_pos z, if_pos (by omega), if_pos (by omega)]
        · rw [if_neg z, show Q 87 17 * 10 + Q 90 i - 48 = 10 * Q 87 17 + Q 90 i - 48 by omega]
      · rw [if_neg h9]
        refine go (Q 87 17) (pm_ms Q 87 17 (Q 87 17)) ⟨by omega, by omega, ?_⟩ (by rw [ms_at]) (by rw [ms_nj _ _ _ _ (by omega)]; exact hQ) (fs_ms (by decide))
        rw [r3]
        unfold i_mn
        rw [if_pos (show (10000 : Int) < Q 87 17 by omega), if_pos (by omega)]
    · rw [if_neg (show ¬ (48 ≤ X 38 i ∧ X 38 i ≤ 57) by omega), if_neg hd, if_pos rfl, if_pos rfl]
      exact ⟨i, X, Q, rfl, rfl, Nat.le_refl _, fun _ h => absurd h hd, by omega, hX, hQ, ⟨r1, r2, r3⟩, fs_rf _ _ _, fs_rf _ _ _⟩
/-- letters -/
theorem lt_snoc (f : Nat → Int) : ∀ (n p : Nat), lt f p (n + 1) = lt f p n ++ [f (p + n)]
  | 0, _ => rfl
  | n + 1, p => by
    show f p :: lt f (p + 1) (n + 1) = f p :: (lt f (p + 1) n ++ [f (p + (n + 1))])
    rw [lt_snoc f n (p + 1), show p + 1 + n = p + (n + 1) by omega]
theorem lt_all {f : Nat → Int} {R : Int → Prop} : ∀ (n p : Nat), (∀ k, k < n → R (f (p + k))) → ∀ c ∈ lt f p n, R c
  | 0, _, _, _, h => nomatch h
  | n + 1, p, H, c, h => by
    rcases List.mem_cons.mp h with e | e
    · rw [e]; exact H 0 (by omega)
    · exact lt_all n (p + 1) (fun k hk => by have := H (k + 1) (by omega); rw [show p + 1 + k = p + (k + 1) by omega]; exact this) c e
theorem b_let {N p : Nat} : ∀ (k l n m : Nat) (y2 : Int) (X Q : pm_M), TPX X Q N → p + l + k = N → X 66 6 = ((p + l : Nat) : Int) → Q 87 14 = ((p + l : Nat) : Int) → (l ≤ 8 → y2 = pk (lt (tc X) p l) 0) → (∀ a, a < l → lt6 (tc X (p + a))) → k < n → k < m →
    ∃ (j : Nat) (y2' : Int) (X' Q' : pm_M), f_Reader_word_L0 n X = some X' ∧ f_Q_next_L99 m y2 l Q = some (y2', (j : Int), Q') ∧ l ≤ j ∧ (p + l < N → isL (Q 90 (p + l)) → l < j) ∧ p + j ≤ N ∧ X' 66 6 = ((p + j : Nat) : Int) ∧ Q' 87 14 = ((p + j : Nat) : Int) ∧ (j ≤ 8 → y2' = pk (lt (tc X) p j) 0) ∧ (∀ a, a < j → lt6 (tc X (p + a))) ∧ fs 66 [6] X X' ∧ fs 87 [14] Q Q' := by
  intro k
  induction k with
  | zero =>
    intro l n m y2 X Q hT hi hX hQ hy hl hn hm
    obtain ⟨n, rfl⟩ : ∃ a, n = a + 1 := ⟨n - 1, by omega⟩
    obtain ⟨m, rfl⟩ : ∃ a, m = a + 1 := ⟨m - 1, by omega⟩
    refine ⟨l, y2, X, Q, ?_, ?_, Nat.le_refl _, fun h => by omega, by omega, hX, hQ, hy, hl, fs_rf _ _ _, fs_rf _ _ _⟩
    · rw [f_Reader_word_L0]
      unfold f_Tape_length
      rw [ob, hX, hT.1, if_pos (by omega)]
    · rw [f_Q_next_L99, hT.2.2.1, hQ, if_pos (by omega)]
  | succ k ih =>
    intro l n m y2 X Q hT hi hX hQ hy hl hn hm
    obtain ⟨n, rfl⟩ : ∃ a, n = a + 1 := ⟨n - 1, by omega⟩
    obtain ⟨m, rfl⟩ : ∃ a, m = a + 1 := ⟨m - 1, by omega⟩
    have hb := hT.2.2.2 (p + l) (by omega)
    have h3 := hT.2.1
    have ht : tc X (p + l) = X 38 (p + l) := by unfold tc; rw [if_neg (by rw [hT.1]; omega)]
    rw [f_Reader_word_L0, f_Q_next_L99]
    unfold f_Tape_length
    rw [ob, hX, hT.1, hT.2.2.1, hQ, if_neg (by omega), if_neg (by omega), if_pos (show (0 : Int) ≤ ((p + l : Nat) : Int) ∧ ((p + l : Nat) : Int) < 300 by omega), tn_nat, x_tape hT.1 h3, ob, ht, lr_x, lr_q, ob, ob]
    by_cases hd : (97 ≤ Q 90 (p + l) ∧ Q 90 (p + l) ≤ 122) ∨ (65 ≤ Q 90 (p + l) ∧ Q 90 (p + l) ≤ 90)
    · rw [if_pos (show (97 ≤ X 38 (p + l) ∧ X 38 (p + l) ≤ 122) ∨ (65 ≤ X 38 (p + l) ∧ X 38 (p + l) ≤ 90) by omega), if_pos hd, if_neg (by omega), if_neg (by omega), i_ad_eq (a := ((p + l : Nat) : Int)) (by omega), i_ad_eq (a := (l : Int)) (by omega)]
      have e8 : tc X (p + l) = Q 90 (p + l) := by omega
      have go : ∀ y3 : Int, (l + 1 ≤ 8 → y3 = pk (lt (tc X) p (l + 1)) 0) → ∃ (j : Nat) (y2' : Int) (X' Q' : pm_M), f_Reader_word_L0 n (pm_ms X 66 6 (((p + l : Nat) : Int) + 1)) = some X' ∧ f_Q_next_L99 m y3 ((l : Int) + 1) (pm_ms Q 87 14 (((p + l : Nat) : Int) + 1)) = some (y2', (j : Int), Q') ∧ l ≤ j ∧ (p + l < N → isL (Q 90 (p + l)) → l < j) ∧ p + j ≤ N ∧ X' 66 6 = ((p + j : Nat) : Int) ∧ Q' 87 14 = ((p + j : Nat) : Int) ∧ (j ≤ 8 → y2' = pk (lt (tc X) p j) 0) ∧ (∀ a, a < j → lt6 (tc X (p + a))) ∧ fs 66 [6] X X' ∧ fs 87 [14] Q Q' := by
        intro y3 h8
        have f1 : fs 66 [6] X (pm_ms X 66 6 (((p + l : Nat) : Int) + 1)) := fs_ms (by decide)
        have f2 : fs 87 [14] Q (pm_ms Q 87 14 (((p + l : Nat) : Int) + 1)) := fs_ms (by decide)
        have t1 := tc_fs f1
        obtain ⟨j, y2', X', Q', a1, a2, a3, _, a4, a5, a6, a7, a8, a9, a10⟩ := ih (l + 1) n m y3 _ _ (TPX_fs hT f1 f2 (by decide)) (by omega) (by rw [ms_at]; omega) (by rw [ms_at]; omega) (by rw [t1]; exact h8) (by
          rw [t1]
          intro a ha
          by_cases e : a = l
          · rw [e]; unfold lt6; omega
          · exact hl a (by omega)) (by omega) (by omega)
        rw [t1] at a7 a8
        exact ⟨j, y2', X', Q', a1, a2, by omega, fun _ _ => by omega, a4, a5, a6, a7, a8, fs_tr f1 a9, fs_tr f2 a10⟩
      by_cases h8 : (8 : Int) ≤ l
      · rw [if_pos h8]
        exact go y2 (fun z => by omega)
      · rw [if_neg h8, if_pos (show (0 : Int) ≤ ((p + l : Nat) : Int) ∧ ((p + l : Nat) : Int) < 300 by omega)]
        have hy2 := hy (by omega)
        have hall : ∀ c ∈ lt (tc X) p l, lt6 c := lt_all l p hl
        have hi2 := pk_hi (lt (tc X) p l) 0 (by omega) hall
        have lo2 := pk_lo (lt (tc X) p l) 0 (by omega) hall
        have h64 := p64_le (m := (lt (tc X) p l).length) (n := 8) (by rw [lt_len]; omega)
        have h64b : p64 8 = 281474976710656 := by decide
        rw [h64b] at h64
        have hy3 : 0 ≤ y2 ∧ y2 ≤ 281474976710656 := by rw [hy2]; omega
        rw [l_ml_eq (a := 64) (by omega), l_ad_eq (a := 64 * y2) (by omega), l_sb_eq (a := 64 * y2 + Q 90 (p + l)) (by omega)]
        refine go _ (fun _ => ?_)
        rw [lt_snoc, pk_app, ← hy2, e8]
    · rw [if_neg (show ¬ ((97 ≤ X 38 (p + l) ∧ X 38 (p + l) ≤ 122) ∨ (65 ≤ X 38 (p + l) ∧ X 38 (p + l) ≤ 90)) by omega), if_neg hd, if_pos rfl, if_pos rfl]
      exact ⟨l, y2, X, Q, rfl, rfl, Nat.le_refl _, fun _ h => absurd h hd, by omega, hX, hQ, hy, hl, fs_rf _ _ _, fs_rf _ _ _⟩
