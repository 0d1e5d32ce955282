/-! BEST: row by row -/
section
variable {n row pp : Nat} {C : Nat → Nat → Int}
theorem free_ex {g : Nat → Int} : ∀ k : Nat, (∀ i, i < k → g (i + 1) ≠ 0) → smv k (fun i => if g (i + 1) = 0 then 0 else 1) = k
  | 0, _ => rfl
  | k + 1, h => by rw [smv, free_ex k (fun i hi => h i (by omega)), if_neg (h k (by omega))]; omega
theorem x_match (hn : n ≤ 20) (hr : 1 ≤ row ∧ row ≤ 8) (hrn : row ≤ n) (hCB : CB n pp C) (hpp : row ≤ pp ∧ pp ≤ 8) {M : pm_M} (h : HM n pp row C M) : ok (f_Placing_match row M) (fun M' => HM n pp (row + 1) C M' ∧ fr [70, 71, 72, 73, 74, 75] M M') := by
  obtain ⟨h1, h2, h3, ⟨mt, m1, m2⟩, h5, h6, h7, h8, h9⟩ := id h
  unfold f_Placing_match
  refine ok_bind (x_mL2 (row : Int) hn (n + 1) pm_F 0 M (by omega) (by unfold pm_F; omega) h1 (fun k hk => by omega)) ?_
  rintro ⟨y, M1⟩ ⟨e1, e2, f1⟩
  dsimp only at e1 e2 f1 ⊢
  subst e1
  refine ok_bd ?_
  generalize hM2 : pm_ms M1 73 0 (row : Int) = M2
  have f2 : fr [72, 73, 75] M M2 := by rw [← hM2]; exact fr_tr f1 (S2 := [73]) (fr_ms (by decide)) (by decide) (by decide)
  have a73 : ∀ k, M2 73 k = if k = 0 then (row : Int) else M 73 k := fun k => by rw [← hM2, msc, aSn, f1 73 (by decide)]
  have a72 : ∀ k, k ≤ n → M2 72 k = FARL := fun k hk => by rw [← hM2, pm_ms_ne (by omega)]; exact (e2 k hk).1
  have a75 : ∀ k, k ≤ n → M2 75 k = 0 := fun k hk => by rw [← hM2, pm_ms_ne (by omega)]; exact (e2 k hk).2
  have eu : ∀ r, uX M2 r = uX M r := fun r => by unfold uX; rw [f2 70 (by decide)]
  have ev : ∀ k, vX M2 k = vX M k := fun k => by unfold vX; rw [f2 71 (by decide)]
  have el : ∀ r k, lft C M2 r k = lft C M r k := fun r k => by unfold lft; rw [eu, ev]
  have hnn : ∀ k, k ≤ n → 0 ≤ M2 73 k := fun k hk => by
    rw [a73]
    by_cases e : k = 0
    · rw [if_pos e]; omega
    · rw [if_neg e]; exact (h3 k (by omega) hk).1
  have hT2 : hT n pp C (fun k => (M2 73 k).toNat) M2 := ⟨by rw [f2 67 (by decide)]; exact h1, fun r k a b c d => by rw [f2 69 (by decide)]; exact h2 r k a b c d, fun k hk => by have := hnn k hk; show M2 73 k = (((M2 73 k).toNat : Nat) : Int); omega⟩
  have R0' : (M2 73 0).toNat = row := by rw [a73, if_pos rfl, tn_nat]
  have Rk : ∀ k, 1 ≤ k → (M2 73 k).toNat = (M 73 k).toNat := fun k hk => by rw [a73, if_neg (by omega)]
  generalize hRdef : (fun k => (M2 73 k).toNat) = R at hT2
  have hRk : ∀ k, R k = (M2 73 k).toNat := fun k => by rw [← hRdef]
  have hR : RF n row R := by
    refine ⟨by rw [hRk]; exact R0', hr.1, hr.2, fun k x y => ?_, fun k k' x y z w => ?_, ?_⟩
    · rw [hRk, Rk k x]
      have := h3 k x y
      omega
    · rw [hRk] at z w
      rw [hRk] at w
      by_cases e : k = 0
      · by_cases e' : k' = 0
        · rw [e, e']
        · rw [e, R0', Rk k' (by omega)] at w
          have := h3 k' (by omega) y
          omega
      · by_cases e' : k' = 0
        · rw [e', R0', Rk k (by omega)] at w
          have := h3 k (by omega) x
          omega
        · rw [Rk k (by omega), Rk k' (by omega)] at w
          rw [Rk k (by omega)] at z
          have b1 := h3 k (by omega) x
          have b2 := h3 k' (by omega) y
          have g1 := m2 k (by omega) x (by omega)
          have g2 := m2 k' (by omega) y (by omega)
          rw [← g1, w, g2]
    · apply Classical.byContradiction
      intro hne
      have := free_ex (g := M 73) n (fun i hi hz => hne ⟨i + 1, by omega, by omega, by rw [hRk, Rk (i + 1) (by omega), hz]; rfl⟩)
      rw [this] at h5
      omega
  have hU : U0 n row C R (uX M) (vX M) := by
    refine ⟨fun r k a b c d => ?_, fun k a b c => ?_, fun k a b => ?_, fun r a b => ?_, h9 row (Nat.le_refl _) hr.2⟩
    · have := (h6 r k a b c d).1
      unfold lft at this
      omega
    · rw [hRk, Rk k a] at c ⊢
      have b3 := h3 k a b
      have := (h6 (M 73 k).toNat k (by omega) (by omega) a b).2 (by omega)
      unfold lft at this
      omega
    · have g := h7 k a b
      refine ⟨g.1, fun z => g.2.1 ?_, ?_⟩
      · rw [hRk, Rk k a] at z
        have b3 := h3 k a b
        omega
      · unfold cK at *; omega
    · have := h8 r a b
      unfold cK at *; omega
  -- the first turn
  have first : ok ((f_Placing_nearestFrom ((0 : Nat) : Int) (pm_ms M2 75 0 1)).bind fun r413 => f_Placing_match_L43 (pm_F - 1) r413.1 1 r413.2) (fun z => ∃ j' i' : Nat, z.1 = j' ∧ PH n pp row C R (uX M) (vX M) i' j' z.2 ∧ R j' = 0 ∧ i' ≤ n ∧ fr [70, 71, 72, 74, 75] M2 z.2) := by
    have f3 : fr [75] M2 (pm_ms M2 75 0 1) := fr_ms (by decide)
    generalize hM3 : pm_ms M2 75 0 1 = M3 at f3
    have b75 : ∀ k, M3 75 k = if k = 0 then 1 else M2 75 k := fun k => by rw [← hM3, msc, aSn]
    have un3 : ∀ k, 1 ≤ k → k ≤ n → M3 75 k = 0 := fun k x y => by rw [b75, if_neg (by omega)]; exact a75 k y
    have us3 : ∀ k, k ≤ n → M3 75 k = 1 → k = 0 := fun k x y => by
      apply Classical.byContradiction
      intro hne
      have := un3 k (by omega) x
      omega
    have lu : ∀ r, uX M3 r = uX M r := fun r => by show M3 70 r = _; rw [f3 70 (by decide)]; exact eu r
    have lv : ∀ k, vX M3 k = vX M k := fun k => by show M3 71 k = _; rw [f3 71 (by decide)]; exact ev k
    have ll : ∀ r k, lft C M3 r k = lft C M r k := fun r k => by unfold lft; rw [lu, lv]
    have R0 : R 0 = row := hR.1
    have l72 : ∀ k, k ≤ n → M3 72 k = FARL := fun k hk => by rw [f3 72 (by decide)]; exact a72 k hk
    have far : ∀ k, 1 ≤ k → k ≤ n → ¬ (M3 72 k ≤ lft C M3 (R 0) k) := fun k x y => by
      rw [l72 k y, ll, R0]
      have g1 := hCB row k hr.1 hpp.1 x y
      have g2 := h7 k x y
      have g3 := h9 row (Nat.le_refl _) hr.2
      unfold lft
      rw [g3]
      unfold FARL
      unfold cK at *
      omega
    have ht := x_turn (u0 := uX M) (v0 := vX M) hn hR hCB hpp hU (i := 0) (j0 := 0) (M1 := M3) (E0 := 0) ⟨by omega, by rw [b75, if_pos rfl]⟩ (hT_fr hT2 f3 (by decide)) (fun k x => by
        by_cases e : k = 0
        · rw [b75, if_pos e]; exact Or.inr rfl
        · exact Or.inl (un3 k (by omega) x)) (by
        rw [← hM3, mark_s (by omega) (a75 0 (by omega))]
        have : smv (n + 1) (M2 75) = 0 := by
          have g := smv_b (f := M2 75) (B := 0) (n + 1) (fun p hp => by rw [a75 p (by omega)]; omega)
          omega
        omega) (by rw [b75, if_pos rfl]) (fun k x y z => by have := us3 k y z; omega) (fun k x y z => by
        refine ⟨fun q hq hq1 => ?_, 0, ?_, by omega, by rw [b75, if_pos rfl], ?_⟩
        · rw [us3 q hq hq1]; unfold nwF; rw [if_neg (far k x y)]; exact Int.le_refl _
        · unfold ncF; rw [if_neg (far k x y)]
        · unfold nwF; rw [if_neg (far k x y)]) ⟨fun _ => 0, rfl, fun k x y z => by have := us3 k y z; omega⟩ (fun r k _ _ x y z => by have := us3 k y z; omega) (fun r k a b c d e => by
        rw [ll]
        have hne : r ≠ row := fun z => c 0 (by omega) (by rw [b75, if_pos rfl]) (by rw [R0, z])
        exact (h6 r k a (by omega) d e).1) (fun k x y z => by
        rw [ll]
        rw [hRk, Rk k x] at z ⊢
        have b3 := h3 k x y
        exact (h6 (M 73 k).toNat k (by omega) (by omega) x y).2 (by omega)) (fun k x y => by rw [lv]; exact ⟨(h7 k x y).1, fun _ => rfl⟩) (by rw [lu, h9 row (Nat.le_refl _) hr.2]; unfold cK; omega) (fun r _ _ _ => by rw [lu]; omega) (fun k _ _ => by rw [lv]; omega) (by unfold cK; omega) (fun r _ _ => by rw [lu]) (Or.inl ⟨rfl, by rw [lu]; exact h9 row (Nat.le_refl _) hr.2, un3⟩)
    refine ok_bind ht ?_
    rintro ⟨fd, M4⟩ ⟨j', z1, z2, z3⟩
    dsimp only at z1 z2 z3 ⊢
    rw [z1]
    have f24 : fr [70, 71, 72, 74, 75] M2 M4 := fr_tr f3 z3 (by decide) (by decide)
    have := x_L43 hn hR hCB hpp hU n (pm_F - 1) 1 j' M4 (by omega) (by omega) (by unfold pm_F; omega) z2
    rw [show ((1 : Nat) : Int) = 1 from rfl] at this
    refine ok_mono this ?_
    rintro z ⟨a, b, c1, c2, c3, c4, c5⟩
    exact ⟨a, b, c1, c2, c3, c4, fr_2 f24 c5⟩
  have e43 : f_Placing_match_L43 pm_F 0 0 M2 = (f_Placing_nearestFrom ((0 : Nat) : Int) (pm_ms M2 75 0 1)).bind fun r413 => f_Placing_match_L43 (pm_F - 1) r413.1 1 r413.2 := by
    have ep : pm_F = (pm_F - 1) + 1 := by unfold pm_F; omega
    rw [ep, f_Placing_match_L43, f2 67 (by decide), h1, if_neg (by omega), if_pos (by omega), show (0 : Int).toNat = 0 from rfl, a73, if_pos rfl, if_neg (by omega), if_pos (by omega), i_ad_eq (by omega)]
    rfl
  rw [e43]
  refine ok_bind first ?_
  rintro ⟨jj, M5⟩ ⟨j, i, w1, w2, w3, w4, w5⟩
  dsimp only at w1 w2 w3 w4 w5 ⊢
  subst w1
  obtain ⟨p1, p2, p3, p4, ⟨j1, j2, j3, j4⟩, p6, p7, ⟨rk, q0, q1⟩, p9, p10, p11, p12, p13, p14, p15⟩ := id w2
  have R0 : R 0 = row := hR.1
  have c73 : ∀ k, k ≤ n → M5 73 k = (R k : Int) := p1.2.2
  have hAU : AU n row C j M5 := by
    refine ⟨⟨aN mt row 0, fun r x y => ?_, fun k x y z => ?_⟩, fun k x y => ?_, fun k x y z w => ?_⟩
    · by_cases e : r = row
      · rw [e, aN_e]
        exact ⟨by omega, by omega, by rw [c73 0 (by omega), R0]⟩
      · rw [aN_n e]
        obtain ⟨b1, b2, b3⟩ := m1 r x (by omega)
        have hv : R (mt r) = r := by rw [hRk, Rk _ b1, b3, tn_nat]
        refine ⟨b2, fun z => ?_, by rw [c73 _ b2, hv]⟩
        rw [z] at hv
        omega
    · rw [c73 k x] at z ⊢
      rw [tn_nat]
      by_cases e : k = 0
      · rw [e, R0, aN_e]
      · have hk := hR.2.2.2.1 k (by omega) x
        rw [aN_n (by omega)]
        have b3 := h3 k (by omega) x
        have g := m2 k (by omega) x (by rw [hRk, Rk k (by omega)] at z; omega)
        rw [hRk, Rk k (by omega)]
        exact g
    · rw [c73 k x]
      by_cases e : k = 0
      · rw [e, R0]; omega
      · have hk := hR.2.2.2.1 k (by omega) x
        omega
    · rw [c73 k y] at w ⊢
      rw [tn_nat]
      exact p10 k x y (by omega)
  obtain ⟨pj, y1, y2, y3, y4⟩ := (p7 j j1 j2 j3).2.2
  have h81 := x_L81 (C := C) hn hR (M0 := M5) p1.1 (rk := rk) (fun k a b c => (q1 k a b c).2) p6 i pm_F 0 j M5 (by omega) (by unfold pm_F; omega) j2 (fr_rf _ _) (fun k a b c => ⟨c73 k a, fun z => by rw [z, j3] at b; omega⟩) (fun _ => ⟨pj, y1, y2, y3, by
      by_cases e : pj = 0
      · rw [e, q0]
        have := smv_b (f := M5 75) (B := 1) (n + 1) (fun p hp => by have := p2 p (by omega); omega)
        have hs := smv_set (M5 75) 0 0 (n + 1)
        rw [if_pos (by omega), p4] at hs
        have hs2 := (smv_b (f := fun p => if p = 0 then 0 else M5 75 p) (B := 1) (n + 1) (fun p hp => by have := p2 p (by omega); split <;> omega)).1
        omega
      · exact (q1 pj (by omega) y2 y3).1, by rw [← y4]; exact j4⟩) hAU
  rw [show ((0 : Nat) : Int) = 0 from rfl] at h81
  refine ok_bind h81 ?_
  rintro M6 ⟨⟨⟨mt', t1, t2⟩, t3, t4⟩, z2, z3⟩
  have fz : fr [70, 71, 72, 73, 74, 75] M M6 := fr_tr (fr_tr f2 w5 (S := [70, 71, 72, 73, 74, 75]) (by decide) (by decide)) z3 (by decide) (by decide)
  have gu : ∀ r, uX M6 r = uX M5 r := fun r => by unfold uX; rw [z3 70 (by decide)]
  have gv : ∀ k, vX M6 k = vX M5 k := fun k => by unfold vX; rw [z3 71 (by decide)]
  have gl : ∀ r k, lft C M6 r k = lft C M5 r k := fun r k => by unfold lft; rw [gu, gv]
  refine ok_some ⟨⟨by rw [fz 67 (by decide)]; exact h1, fun r k a b c d => by rw [fz 69 (by decide)]; exact h2 r k a b c d, fun k x y => ?_, ⟨mt', fun r x y => ?_, fun k x y z => t2 k y (by omega) z⟩, ?_, fun r k a b c d => ?_, fun k x y => ?_, fun r x y => ?_, fun r x y => ?_⟩, fz⟩
  · have := t3 k y (by omega); omega
  · obtain ⟨b1, b2, b3⟩ := t1 r x (by omega)
    exact ⟨by omega, b1, b3⟩
  · have hset := smv_set (fun k => if M 73 (k + 1) = 0 then 0 else 1) (j - 1) 1 n
    have hRj : M 73 (j - 1 + 1) = 0 := by
      rw [show j - 1 + 1 = j by omega]
      rw [hRk, Rk j j1] at w3
      have b3 := h3 j j1 j2
      omega
    rw [if_pos (show j - 1 < n by omega)] at hset
    have e0 : (if M 73 (j - 1 + 1) = 0 then (0 : Int) else 1) = 0 := by rw [if_pos hRj]
    rw [e0, h5] at hset
    have : smv n (fun k => if M6 73 (k + 1) = 0 then 0 else 1) = smv n (fun p => if p = j - 1 then 1 else (if M 73 (p + 1) = 0 then 0 else 1)) := by
      refine smv_congr n (fun p hp => ?_)
      have g := z2 (p + 1) (by omega) (by omega)
      have b3 := h3 (p + 1) (by omega) (by omega)
      have e5 : M5 73 (p + 1) = 0 ↔ M 73 (p + 1) = 0 := by
        rw [c73 (p + 1) (by omega), hRk, Rk (p + 1) (by omega)]
        omega
      by_cases ep : p = j - 1
      · rw [if_pos ep, if_neg]
        intro z
        exact (g.mp z).2 (by omega)
      · rw [if_neg ep]
        by_cases em : M 73 (p + 1) = 0
        · rw [if_pos em, if_pos (g.mpr ⟨e5.mpr em, by omega⟩)]
        · rw [if_neg em, if_neg (fun z => em (e5.mp (g.mp z).1))]
    rw [this, hset]
    omega
  · rw [gl]
    refine ⟨p9 r k a (by omega) c d, fun z => ?_⟩
    have := t4 k c d (by omega) (by omega)
    rw [z, tn_nat, gl] at this
    exact this
  · rw [gv]
    have g11 := p11 k x y
    have g14 := p14 k x y
    have g7 := h7 k x y
    refine ⟨g11.1, fun z => ?_, ?_⟩
    · obtain ⟨b1, b2⟩ := (z2 k x y).mp z
      have hRk0 : R k = 0 := by rw [c73 k y] at b1; omega
      have hun : M5 75 k = 0 := by rcases p2 k y with h | h; exact h; exact absurd hRk0 (p6 k x y h)
      rw [g11.2 hun]
      exact hU.2.2.1 k x y |>.2.1 hRk0
    · unfold cK at *; omega
  · rw [gu]
    by_cases e : r = row
    · rw [e]; unfold cK at *; omega
    · have g13 := p13 r x y e
      have g8 := h8 r x y
      unfold cK at *; omega
  · rw [gu, p15 r (by omega) y]
    exact h9 r (by omega) y
end
