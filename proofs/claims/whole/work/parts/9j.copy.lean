/-! A TEXT IS KEPT: copies of the reference, pictures -/
section
variable {M Q : pm_M}
theorem q_cp1 {t nc : Nat} (ht : t < 4) (hnc : nc ≤ 24) : ∀ (k n q : Nat) (M : pm_M), q + k = nc → k < n → M 87 28 = nc → ∃ M', f_Q_text_L211 n (t : Int) (q : Int) M = some ((t : Int), M') ∧ (∀ c, q ≤ c → c < nc → M' 92 (24 * t + c) = M 102 c ∧ M' 93 (24 * t + c) = i_ad (400 * (t : Int)) (M 103 c) ∧ M' 94 (24 * t + c) = M 104 c ∧ M' 95 (24 * t + c) = M 105 c) ∧ (∀ i, i < 24 * t + q ∨ 24 * t + nc ≤ i → M' 92 i = M 92 i ∧ M' 93 i = M 93 i ∧ M' 94 i = M 94 i ∧ M' 95 i = M 95 i) ∧ fr [92, 93, 94, 95] M M' := by
  intro k
  induction k with
  | zero =>
    intro n q M hq hn h28
    obtain ⟨n, rfl⟩ : ∃ a, n = a + 1 := ⟨n - 1, by omega⟩
    rw [f_Q_text_L211, h28, if_pos (by omega)]
    exact ⟨M, rfl, fun c h1 h2 => by omega, fun i _ => ⟨rfl, rfl, rfl, rfl⟩, fr_rf _ _⟩
  | succ k ih =>
    intro n q M hq hn h28
    obtain ⟨n, rfl⟩ : ∃ a, n = a + 1 := ⟨n - 1, by omega⟩
    have hi : (24 * (t : Int) + (q : Int)).toNat = 24 * t + q := by omega
    rw [f_Q_text_L211, h28, if_neg (by omega), if_pos (show (0 : Int) ≤ (q : Int) ∧ (q : Int) < 24 by omega), i_ml_eq (a := 24) (by omega), i_ad_eq (a := 24 * (t : Int)) (by omega), if_pos (show (0 : Int) ≤ 24 * (t : Int) + (q : Int) ∧ 24 * (t : Int) + (q : Int) < 96 by omega), hi, tn_nat, pbd]
    rw [if_pos (show (0 : Int) ≤ (q : Int) ∧ (q : Int) < 24 by omega), if_pos (show (0 : Int) ≤ 24 * (t : Int) + (q : Int) ∧ 24 * (t : Int) + (q : Int) < 96 by omega), pbd, i_ml_eq (a := 400) (by omega)]
    rw [if_pos (show (0 : Int) ≤ (q : Int) ∧ (q : Int) < 24 by omega), if_pos (show (0 : Int) ≤ 24 * (t : Int) + (q : Int) ∧ 24 * (t : Int) + (q : Int) < 96 by omega), pbd]
    rw [if_pos (show (0 : Int) ≤ (q : Int) ∧ (q : Int) < 24 by omega), if_pos (show (0 : Int) ≤ 24 * (t : Int) + (q : Int) ∧ 24 * (t : Int) + (q : Int) < 96 by omega), pbd, i_ad_eq (a := (q : Int)) (by omega), show (q : Int) + 1 = ((q + 1 : Nat) : Int) by omega]
    generalize hM1 : pm_ms M 92 (24 * t + q) (M 102 q) = M1
    have f1 : fr [92] M M1 := by rw [← hM1]; exact fr_ms (by decide)
    generalize hM2 : pm_ms M1 93 (24 * t + q) (i_ad (400 * (t : Int)) (M1 103 q)) = M2
    have f2 : fr [93] M1 M2 := by rw [← hM2]; exact fr_ms (by decide)
    generalize hM3 : pm_ms M2 94 (24 * t + q) (M2 104 q) = M3
    have f3 : fr [94] M2 M3 := by rw [← hM3]; exact fr_ms (by decide)
    generalize hM4 : pm_ms M3 95 (24 * t + q) (M3 105 q) = M4
    have f4 : fr [95] M3 M4 := by rw [← hM4]; exact fr_ms (by decide)
    have f04 : fr [92, 93, 94, 95] M M4 := fr_tr (fr_tr (fr_tr (S := [92, 93, 94, 95]) f1 f2 (by decide) (by decide)) f3 (S := [92, 93, 94, 95]) (idm _) (by decide)) f4 (idm _) (by decide)
    have e92 : M4 92 = aS (M 92) (24 * t + q) (M 102 q) := by rw [f4 92 (by decide), f3 92 (by decide), f2 92 (by decide), ← hM1, msc]
    have e93 : M4 93 = aS (M 93) (24 * t + q) (i_ad (400 * (t : Int)) (M 103 q)) := by rw [f4 93 (by decide), f3 93 (by decide), ← hM2, msc, f1 93 (by decide), f1 103 (by decide)]
    have e94 : M4 94 = aS (M 94) (24 * t + q) (M 104 q) := by rw [f4 94 (by decide), ← hM3, msc, f2 94 (by decide), f1 94 (by decide), f2 104 (by decide), f1 104 (by decide)]
    have e95 : M4 95 = aS (M 95) (24 * t + q) (M 105 q) := by rw [← hM4, msc, f3 95 (by decide), f2 95 (by decide), f1 95 (by decide), f3 105 (by decide), f2 105 (by decide), f1 105 (by decide)]
    obtain ⟨M', a1, a2, a3, a4⟩ := ih n (q + 1) M4 (by omega) (by omega) (by rw [f04 87 (by decide)]; exact h28)
    refine ⟨M', a1, fun c h1 h2 => ?_, fun i hi2 => ?_, fr_2 f04 a4⟩
    · by_cases e : c = q
      · have := a3 (24 * t + c) (Or.inl (by omega))
        rw [this.1, this.2.1, this.2.2.1, this.2.2.2, e92, e93, e94, e95, aSn, aSn, aSn, aSn, e, if_pos rfl, if_pos rfl, if_pos rfl, if_pos rfl]
        exact ⟨rfl, rfl, rfl, rfl⟩
      · have := a2 c (by omega) h2
        rw [f04 102 (by decide), f04 103 (by decide), f04 104 (by decide), f04 105 (by decide)] at this
        exact this
    · have := a3 i (by omega)
      rw [this.1, this.2.1, this.2.2.1, this.2.2.2, e92, e93, e94, e95, aSn, aSn, aSn, aSn, if_neg (by omega), if_neg (by omega), if_neg (by omega), if_neg (by omega)]
      exact ⟨rfl, rfl, rfl, rfl⟩
theorem q_cp2 {t ln : Nat} (ht : t < 4) (hnc : ln ≤ 400) : ∀ (k n q : Nat) (M : pm_M), q + k = ln → k < n → M 87 34 = ln → ∃ M', f_Q_text_L301 n (t : Int) (q : Int) M = some ((t : Int), M') ∧ (∀ c, q ≤ c → c < ln → M' 96 (400 * t + c) = M 106 c ∧ M' 97 (400 * t + c) = M 107 c) ∧ (∀ i, i < 400 * t + q ∨ 400 * t + ln ≤ i → M' 96 i = M 96 i ∧ M' 97 i = M 97 i) ∧ fr [96, 97] M M' := by
  intro k
  induction k with
  | zero =>
    intro n q M hq hn h28
    obtain ⟨n, rfl⟩ : ∃ a, n = a + 1 := ⟨n - 1, by omega⟩
    rw [f_Q_text_L301, h28, if_pos (by omega)]
    exact ⟨M, rfl, fun c h1 h2 => by omega, fun i _ => ⟨rfl, rfl⟩, fr_rf _ _⟩
  | succ k ih =>
    intro n q M hq hn h28
    obtain ⟨n, rfl⟩ : ∃ a, n = a + 1 := ⟨n - 1, by omega⟩
    have hi : (400 * (t : Int) + (q : Int)).toNat = 400 * t + q := by omega
    rw [f_Q_text_L301, h28, if_neg (by omega), if_pos (show (0 : Int) ≤ (q : Int) ∧ (q : Int) < 400 by omega), i_ml_eq (a := 400) (by omega), i_ad_eq (a := 400 * (t : Int)) (by omega), if_pos (show (0 : Int) ≤ 400 * (t : Int) + (q : Int) ∧ 400 * (t : Int) + (q : Int) < 1600 by omega), hi, tn_nat, pbd]
    rw [if_pos (show (0 : Int) ≤ (q : Int) ∧ (q : Int) < 400 by omega), if_pos (show (0 : Int) ≤ 400 * (t : Int) + (q : Int) ∧ 400 * (t : Int) + (q : Int) < 1600 by omega), pbd, i_ad_eq (a := (q : Int)) (by omega), show (q : Int) + 1 = ((q + 1 : Nat) : Int) by omega]
    generalize hM1 : pm_ms M 96 (400 * t + q) (M 106 q) = M1
    have f1 : fr [96] M M1 := by rw [← hM1]; exact fr_ms (by decide)
    generalize hM2 : pm_ms M1 97 (400 * t + q) (M1 107 q) = M2
    have f2 : fr [97] M1 M2 := by rw [← hM2]; exact fr_ms (by decide)
    have f04 : fr [96, 97] M M2 := fr_tr f1 f2 (by decide) (by decide)
    have e96 : M2 96 = aS (M 96) (400 * t + q) (M 106 q) := by rw [f2 96 (by decide), ← hM1, msc]
    have e97 : M2 97 = aS (M 97) (400 * t + q) (M 107 q) := by rw [← hM2, msc, f1 97 (by decide), f1 107 (by decide)]
    obtain ⟨M', a1, a2, a3, a4⟩ := ih n (q + 1) M2 (by omega) (by omega) (by rw [f04 87 (by decide)]; exact h28)
    refine ⟨M', a1, fun c h1 h2 => ?_, fun i hi2 => ?_, fr_2 f04 a4⟩
    · by_cases e : c = q
      · have := a3 (400 * t + c) (Or.inl (by omega))
        rw [this.1, this.2, e96, e97, aSn, aSn, e, if_pos rfl, if_pos rfl]
        exact ⟨rfl, rfl⟩
      · have := a2 c (by omega) h2
        rw [f04 106 (by decide), f04 107 (by decide)] at this
        exact this
    · have := a3 i (by omega)
      rw [this.1, this.2, e96, e97, aSn, aSn, if_neg (by omega), if_neg (by omega)]
      exact ⟨rfl, rfl⟩
-- pictures of other texts stay
theorem cdQ_cg {f g f' g' : Nat → Int} : ∀ (l : List (Int × Int)) (k : Nat), (∀ i, k ≤ i → i ≤ k + l.length → f' i = f i ∧ g' i = g i) → cdQ f g k l → cdQ f' g' k l
  | [], k, h, H => by
    show f' k = 408
    rw [(h k (Nat.le_refl _) (Nat.le_add_right _ _)).1]; exact H
  | c :: l, k, h, H => by
    have h0 := h k (Nat.le_refl _) (Nat.le_add_right _ _)
    refine ⟨by rw [h0.1]; exact H.1, by rw [h0.2]; exact H.2.1, cdQ_cg l (k + 1) (fun i h1 h2 => h i (by omega) (by rw [List.length_cons]; omega)) H.2.2⟩
theorem TXt_cg {M' : pm_M} {t : Nat} (h : TXt M t) (hx : ∀ i, i < 6 → M' (40 + 6 * t + i) = M (40 + 6 * t + i)) (h91 : M' 91 t = M 91 t) (h9 : ∀ c, c < 24 → M' 92 (24 * t + c) = M 92 (24 * t + c) ∧ M' 93 (24 * t + c) = M 93 (24 * t + c) ∧ M' 94 (24 * t + c) = M 94 (24 * t + c) ∧ M' 95 (24 * t + c) = M 95 (24 * t + c)) (h96 : ∀ i, 400 * t ≤ i → i < 400 * t + 400 → M' 96 i = M 96 i ∧ M' 97 i = M 97 i) : TXt M' t := by
  obtain ⟨a1, a2, a3, a4⟩ := h
  have x0 : M' (40 + 6 * t) = M (40 + 6 * t) := hx 0 (by omega)
  have x1 : M' (40 + 6 * t + 1 + 0) = M (40 + 6 * t + 1 + 0) := hx 1 (by omega)
  have x2 : M' (40 + 6 * t + 1 + 1) = M (40 + 6 * t + 1 + 1) := hx 2 (by omega)
  have x3 : M' (40 + 6 * t + 1 + 2) = M (40 + 6 * t + 1 + 2) := hx 3 (by omega)
  have x4 : M' (40 + 6 * t + 1 + 3) = M (40 + 6 * t + 1 + 3) := hx 4 (by omega)
  have x5 : M' (40 + 6 * t + 1 + 4) = M (40 + 6 * t + 1 + 4) := hx 5 (by omega)
  refine ⟨by rw [h91]; exact a1, by rw [h91, x0]; exact a2, fun c hc => ?_, fun L hL => ?_⟩
  · rw [h91] at hc
    have e := h9 c (by omega)
    rw [x1, x2, x3, e.1, e.2.2.1, e.2.2.2]
    exact a3 c hc
  · rcases a4 L hL with ⟨b1, b2⟩ | ⟨c, f, g, l, b1, b2, b3, b4, b5, b6, b7, b8, b9, b10, b11, b12⟩
    · refine Or.inl ⟨by rw [x4]; exact b1, fun c hc => ?_⟩
      rw [h91] at hc
      rw [(h9 c (by omega)).1]
      exact b2 c hc
    · refine Or.inr ⟨c, f, g, l, by rw [h91]; exact b1, by rw [x4]; exact b2, fun c' hc' => ?_, by rw [x2]; exact b4, by rw [x3]; exact b5, b6, by rw [(h9 c (by omega)).2.1]; exact b7, b8, b9, by rw [x5]; exact b10, ?_, b12⟩
      · rw [h91] at hc'
        rw [(h9 c' (by omega)).1]
        exact b3 c' hc'
      · exact cdQ_cg l g (fun i h1 h2 => h96 i (by omega) (by omega)) b11
-- the new text
theorem cdX_mid {f : Nat → Int} : ∀ (a l b : List (Int × Int)) (k : Nat), cdX f k (a ++ l ++ b) → cdX f (k + a.length) l
  | [], [], _, _, _ => trivial
  | [], c :: l, b, k, h => ⟨h.1, by
    have := cdX_mid [] l b (k + 1) h.2
    exact this⟩
  | d :: a, l, b, k, h => by
    have := cdX_mid a l b (k + 1) h.2
    rw [List.length_cons, show k + (a.length + 1) = k + 1 + a.length by omega]
    exact this
theorem cdq_mid {f g : Nat → Int} : ∀ (a l b : List (Int × Int)) (k : Nat), cdq f g k (a ++ l ++ (408, 0) :: b) → cdQ f g (k + a.length) l
  | [], [], _, _, h => h.1
  | [], c :: l, b, k, h => ⟨h.1, h.2.1, by
    have := cdq_mid [] l b (k + 1) h.2.2
    exact this⟩
  | d :: a, l, b, k, h => by
    have := cdq_mid a l b (k + 1) h.2.2
    rw [List.length_cons, show k + (a.length + 1) = k + 1 + a.length by omega]
    exact this
theorem cdQ_sh {f g f' g' : Nat → Int} {s : Nat} : ∀ (l : List (Int × Int)) (k : Nat), (∀ i, k ≤ i → i ≤ k + l.length → f' (s + i) = f i ∧ g' (s + i) = g i) → cdQ f g k l → cdQ f' g' (s + k) l
  | [], k, h, H => by
    show f' (s + k) = 408
    rw [(h k (Nat.le_refl _) (Nat.le_add_right _ _)).1]; exact H
  | c :: l, k, h, H => by
    have h0 := h k (Nat.le_refl _) (Nat.le_add_right _ _)
    exact ⟨by rw [h0.1]; exact H.1, by rw [h0.2]; exact H.2.1, cdQ_sh l (k + 1) (fun i h1 h2 => h i (by omega) (by rw [List.length_cons]; omega)) H.2.2⟩
theorem TXt_new {t N nc p : Nat} {X Z : pm_M} {cl ql : List (Int × Int)} (ht : t < 4) (hS : CLS (40 + 6 * t) N X Q nc cl ql p) (hx : ∀ i, i < 6 → Z (40 + 6 * t + i) = X (40 + 6 * t + i)) (h91 : Z 91 t = nc) (h9 : ∀ c, c < nc → Z 92 (24 * t + c) = Q 102 c ∧ Z 93 (24 * t + c) = i_ad (400 * (t : Int)) (Q 103 c) ∧ Z 94 (24 * t + c) = Q 104 c ∧ Z 95 (24 * t + c) = Q 105 c) (h96 : ∀ c, c < ql.length → Z 96 (400 * t + c) = Q 106 c ∧ Z 97 (400 * t + c) = Q 107 c) : TXt Z t := by
  obtain ⟨s1, s2, s3, s4, s5, s6, s7, s8, s9, s10, s11⟩ := hS
  have x0 : Z (40 + 6 * t) = X (40 + 6 * t) := hx 0 (by omega)
  have x1 : Z (40 + 6 * t + 1 + 0) = X (40 + 6 * t + 1 + 0) := hx 1 (by omega)
  have x2 : Z (40 + 6 * t + 1 + 1) = X (40 + 6 * t + 1 + 1) := hx 2 (by omega)
  have x3 : Z (40 + 6 * t + 1 + 2) = X (40 + 6 * t + 1 + 2) := hx 3 (by omega)
  have x4 : Z (40 + 6 * t + 1 + 3) = X (40 + 6 * t + 1 + 3) := hx 4 (by omega)
  have x5 : Z (40 + 6 * t + 1 + 4) = X (40 + 6 * t + 5) := hx 5 (by omega)
  have hpN := p_le s2 s8
  have h300 := s1.2.1
  have e28 := s6.2.1
  refine ⟨by rw [h91]; omega, by rw [h91, x0]; exact s6.1, fun c hc => ?_, fun L hL => ?_⟩
  · rw [h91] at hc
    have e := h9 c (by omega)
    rw [x1, x2, x3, e.1, e.2.2.1, e.2.2.2]
    exact s6.2.2 c (by omega)
  · rcases s7 L hL with ⟨b1, b2⟩ | ⟨c, l, a, b, a', b', b1, b2, b3, b4, b5, b6, b7, b8, b9⟩
    · refine Or.inl ⟨by rw [x4]; exact b1, fun c hc => ?_⟩
      rw [h91] at hc
      rw [(h9 c (by omega)).1]
      exact b2 c (by omega)
    · have l1 : a.length + l.length ≤ cl.length := by rw [b4, List.length_append, List.length_append]; omega
      have l2 : a'.length + l.length < ql.length := by rw [b7, List.length_append, List.length_append, List.length_cons]; omega
      have e := h9 c b1
      refine Or.inr ⟨c, a.length, 400 * t + a'.length, l, by rw [h91]; omega, by rw [x4]; exact b2, fun c' hc' => ?_, by rw [x2]; exact b5, by rw [x3]; exact b6, by omega, ?_, by omega, by omega, ?_, ?_, b9⟩
      · rw [h91] at hc'
        rw [(h9 c' (by omega)).1]
        exact b3 c' (by omega)
      · rw [e.2.1, b8, i_ad_eq (by omega)]; omega
      · rw [x5]
        have := s3.2.2
        rw [b4] at this
        have h2 := cdX_mid a l b 0 this
        rw [Nat.zero_add] at h2
        exact h2
      · have := s4.2.2.2.2.2.2.2.1
        rw [b7] at this
        have h2 := cdq_mid a' l b' 0 this
        rw [Nat.zero_add] at h2
        exact cdQ_sh l a'.length (fun i h3 h4 => h96 i (by omega)) h2
end
