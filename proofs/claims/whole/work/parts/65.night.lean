/-! NIGHTS: the class lets changes happen and keeps what was seen -/
def hdA (A : Nat → Int) (s p : Nat) : Int := a_row A ((wr s).getD p 0)
def chn (A : Nat → Int) (h : Int) : Int := if 0 ≤ h ∧ h < A 1 then A (43 + 2 * h.toNat) else -1
/-- one sight of the night n is so -/
def sg1 (A : Nat → Int) (n : Int) (s k : Nat) : Bool := decide (A (256 + 3 * k) ≠ n) || decide (chn A (hdA A s (A (257 + 3 * k)).toNat) = A (258 + 3 * k))
def sgK (A : Nat → Int) (n : Int) (s : Nat) : Nat → Bool
  | 0 => true
  | k + 1 => sgK A n s k && sg1 A n s k
def sB (A : Nat → Int) (n : Int) (s : Nat) : Bool := sgK A n s (A 5).toNat
def AR (c : Nat) (f : Nat → Int) (M : pm_M) : Prop := ∀ s, s < 120 → M c s = f s
def bd (f : Nat → Int) : Prop := ∀ s, s < 120 → 0 ≤ f s ∧ f s ≤ 1000
theorem getD_lt {s : Nat} (hs : s < 120) {p : Nat} (hp : p < 5) : (wr s).getD p 0 < 5 := by
  obtain ⟨_, h2, h3⟩ := w_num hs
  rw [List.getD_eq_getElem?_getD, List.getElem?_eq_getElem (by omega)]
  exact h3 _ (List.getElem_mem _)
theorem kpN_e {so so' : Nat → Bool} {K : Int} {c : Nat → Int} {s : Nat} (h : so s = so' s) : kpN so K c s = kpN so' K c s := by unfold kpN; rw [h]
theorem kpN_2 {so1 so2 so3 : Nat → Bool} {K : Int} {c : Nat → Int} {s : Nat} (h : so3 s = (so2 s && so1 s)) : kpN so1 K (kpN so2 K c) s = kpN so3 K c s := by
  unfold kpN
  rw [h]
  cases so1 s <;> cases so2 s <;> rfl
section
variable {A : Nat → Int} {P : Nat}
theorem x_headIn {M : pm_M} (hC : CX 24 36 1 A M) (hN : NT M) {s p : Nat} (hs : s < 120) (hp : p < 5) : f_Nights_headIn s p M = some (hdA A s p) := by
  have h5 := getD_lt hs hp
  unfold f_Nights_headIn hdA
  rw [i_ml_eq (by omega), i_ad_eq (by omega), if_pos (by omega), show ((s : Int) * 5 + (p : Int)).toNat = 5 * s + p by omega, hN.1 s p hs hp, x_headAt hC.2.1 (by omega), ob, tn_nat]
theorem x_chin {M : pm_M} (hA : WF A) (hC : CX 24 36 1 A M) (h : Int) : f_Told_chinOf h M = some (chn A h) := by
  have w1 := hA.2.1
  unfold f_Told_chinOf chn
  rw [x_isHd hC.1.1.2.1 h, ob]
  by_cases e : 0 ≤ h ∧ h < A 1
  · rw [pb_1 e, if_neg (by omega), if_pos (by omega), if_pos e, (hC.1.2.2.2.1 h.toNat (by omega)).2]
  · rw [pb_0 e, if_pos rfl, if_neg e]
theorem bd_rlx {j h : Nat} {c : Nat → Int} (hh : h < 5) (hj : j < h) (hb : bd c) : bd (rlx j h c) := by
  intro s hs
  obtain ⟨a1, _, _⟩ := w_T hs hh hj
  have h1 := hb s hs
  have h2 := hb _ a1
  unfold rlx
  split <;> omega
theorem bd_rlH {h : Nat} (hh : h < 5) : ∀ (k j : Nat) (c : Nat → Int), j + k = h → bd c → bd (rlH h k j c)
  | 0, _, _, _, hb => hb
  | k + 1, j, c, e, hb => bd_rlH hh k (j + 1) (rlx j h c) (by omega) (bd_rlx hh (by omega) hb)
theorem bd_sprL (hP : P ≤ 5) : ∀ (k h : Nat) (c : Nat → Int), h + k ≤ P ∨ k = 0 → bd c → bd (sprL k h c)
  | 0, _, _, _, hb => hb
  | k + 1, h, c, e, hb => bd_sprL hP k (h + 1) _ (by omega) (bd_rlH (by omega) h 0 c (by omega) hb)
theorem bd_spr (hP : P ≤ 5) {c : Nat → Int} (hb : bd c) : bd (spr P c) := bd_sprL hP (P - 1) 1 c (by omega) hb
theorem bd_kp {so : Nat → Bool} {c : Nat → Int} (hb : bd c) : bd (kpN so 1000 c) := fun s hs => by
  have := hb s hs
  unfold kpN
  split <;> omega
theorem x_s30_80 {a b : Nat} (hb : b < 5) (ha : a < b) {c : Nat → Int} (hc : bd c) (y2 y3 : Int) : ∀ (t n q : Nat) (M : pm_M), q + t = 120 → t < n → NT M → (∀ s, s < 120 → M 80 s = if s < q then rlx a b c s else c s) → ok (f_Nights_spread_77_80_L30 n y2 y3 ((b * (b - 1) / 2 + a : Nat) : Int) q M) (fun z => ∃ M', z = (y2, y3, M') ∧ AR 80 (rlx a b c) M' ∧ fr [80] M M') := by
  have hsw := swb hb
  intro t
  induction t with
  | zero =>
    intro n q M hq hn hN h
    cases n with
    | zero => omega
    | succ n =>
      unfold f_Nights_spread_77_80_L30
      refine ok_pos (by omega) (ok_some ⟨M, rfl, fun s hs => ?_, fr_rf _ _⟩)
      rw [h s hs, if_pos (by omega)]
  | succ t ih =>
    intro n q M hq hn hN h
    cases n with
    | zero => omega
    | succ n =>
      have hq1 : q < 120 := by omega
      obtain ⟨a1, a2, a3⟩ := w_T hq1 hb ha
      have b1 := hc q hq1
      have b2 := hc _ a1
      have eT := h _ a1
      have eq := h q hq1
      rw [if_neg (by omega)] at eq
      have key : rlx a b c q = if M 80 (tT a b q) + 1 < c q then M 80 (tT a b q) + 1 else c q := by
        rw [eT]
        by_cases e : tT a b q < q
        · rw [if_pos e]
          unfold rlx
          rw [a3]
          generalize c (tT a b q) = y
          generalize c q = x
          by_cases g1 : y + 1 < x
          · have g2 : ¬ (x + 1 < y) := by omega
            rw [if_neg g2]
          · rw [if_neg g1]
            by_cases g2 : x + 1 < y
            · rw [if_pos g2, if_neg (by omega)]
            · rw [if_neg g2, if_neg g1]
        · rw [if_neg e]; rfl
      have hT : 0 ≤ M 80 (tT a b q) ∧ M 80 (tT a b q) ≤ 1000 := by
        rw [eT]
        have := bd_rlx hb ha hc _ a1
        split <;> omega
      unfold f_Nights_spread_77_80_L30
      rw [i_ml_eq (by omega), i_ad_eq (a := (q : Int) * 10) (by omega), show ((q : Int) * 10 + ((b * (b - 1) / 2 + a : Nat) : Int)).toNat = 10 * q + (b * (b - 1) / 2 + a) by omega, hN.2 q a b hq1 hb ha]
      simp only [tn_nat]
      rw [i_ad_eq (a := M 80 (tT a b q)) (by omega), i_ad_eq (a := (q : Int)) (by omega), eq]
      refine ok_neg (by omega) (ok_pos (by omega) (ok_pos (by omega) (ok_bd (ok_pos (by omega) ?_))))
      refine ok_ite (fun g => ?_) (fun g => ok_pos (by omega) (ok_bd ?_))
      · refine ih n (q + 1) M (by omega) (by omega) hN (fun s hs => ?_)
        by_cases e : s = q
        · rw [e, eq, if_pos (by omega), key, if_neg (by omega)]
        · rw [h s hs]
          by_cases e2 : s < q
          · rw [if_pos e2, if_pos (by omega)]
          · rw [if_neg e2, if_neg (by omega)]
      · have f1 : fr [80] M (pm_ms M 80 q (M 80 (tT a b q) + 1)) := fr_ms (by decide)
        refine ok_mono (ih n (q + 1) _ (by omega) (by omega) ⟨by rw [f1 78 (by decide)]; exact hN.1, by rw [f1 79 (by decide)]; exact hN.2⟩ (fun s hs => ?_)) ?_
        · rw [msc, aSn]
          by_cases e : s = q
          · rw [if_pos e, e, if_pos (by omega), key, if_pos (by omega)]
          · rw [if_neg e, h s hs]
            by_cases e2 : s < q
            · rw [if_pos e2, if_pos (by omega)]
            · rw [if_neg e2, if_neg (by omega)]
        · rintro z ⟨M', z1, z2, z3⟩
          exact ⟨M', z1, z2, fr_2 f1 z3⟩
theorem x_s15_80 {b : Nat} (hb : b < 5) : ∀ (k n a : Nat) (c : Nat → Int) (M : pm_M), a + k = b → k < n → bd c → NT M → AR 80 c M → ok (f_Nights_spread_77_80_L15 n b a M) (fun z => ∃ M', z = ((b : Int), M') ∧ AR 80 (rlH b k a c) M' ∧ fr [80] M M') := by
  intro k
  induction k with
  | zero =>
    intro n a c M ha hn hc hN h
    cases n with
    | zero => omega
    | succ n =>
      unfold f_Nights_spread_77_80_L15
      exact ok_pos (by omega) (ok_some ⟨M, rfl, h, fr_rf _ _⟩)
  | succ k ih =>
    intro n a c M ha hn hc hN h
    cases n with
    | zero => omega
    | succ n =>
      unfold f_Nights_spread_77_80_L15
      refine ok_neg (by omega) (ok_be (x_swOf hb (by omega) M) (ok_bind (x_s30_80 hb (show a < b by omega) hc b a 120 pm_F 0 M (by omega) (by unfold pm_F; omega) hN (fun s hs => by rw [if_neg (by omega)]; exact h s hs)) ?_))
      rintro _ ⟨M1, rfl, z2, z3⟩
      dsimp only
      rw [i_ad_eq (by omega)]
      refine ok_mono (ih n (a + 1) (rlx a b c) M1 (by omega) (by omega) (bd_rlx hb (by omega) hc) ⟨by rw [z3 78 (by decide)]; exact hN.1, by rw [z3 79 (by decide)]; exact hN.2⟩ z2) ?_
      rintro z ⟨M', y1, y2, y3⟩
      exact ⟨M', y1, y2, fr_2 z3 y3⟩
theorem x_s2_80 (hP : P ≤ 5) (hPA : A 0 = P) : ∀ (k n b : Nat) (c : Nat → Int) (M : pm_M), (b + k = P ∨ (k = 0 ∧ P ≤ b)) → 1 ≤ b → k < n → b < 100 → bd c → CX 24 36 1 A M → NT M → AR 80 c M → ok (f_Nights_spread_77_80_L2 n b M) (fun M' => AR 80 (sprL k b c) M' ∧ fr [80] M M') := by
  intro k
  induction k with
  | zero =>
    intro n b c M hb h1 hn hb1 hc hC hN h
    cases n with
    | zero => omega
    | succ n =>
      unfold f_Nights_spread_77_80_L2 f_Told_plinths
      rw [hC.1.1.1, hPA]
      exact ok_be rfl (ok_pos (by omega) (ok_some ⟨h, fr_rf _ _⟩))
  | succ k ih =>
    intro n b c M hb h1 hn hb1 hc hC hN h
    cases n with
    | zero => omega
    | succ n =>
      unfold f_Nights_spread_77_80_L2 f_Told_plinths
      rw [hC.1.1.1, hPA]
      refine ok_be rfl (ok_neg (by omega) (ok_bind (x_s15_80 (show b < 5 by omega) b pm_F 0 c M (by omega) (by unfold pm_F; omega) hc hN h) ?_))
      rintro _ ⟨M1, rfl, z2, z3⟩
      dsimp only
      rw [i_ad_eq (by omega)]
      exact ok_mono (ih n (b + 1) (rlH b b 0 c) M1 (by omega) (by omega) (by omega) (by omega) (bd_rlH (by omega) b 0 c (by omega) hc) (CX_fr z3 (by decide) hC) ⟨by rw [z3 78 (by decide)]; exact hN.1, by rw [z3 79 (by decide)]; exact hN.2⟩ z2) (fun M' h' => ⟨h'.1, fr_2 z3 h'.2⟩)
theorem x_spread_80 {M : pm_M} (hP : P ≤ 5) (hPA : A 0 = P) {c : Nat → Int} (hc : bd c) (hC : CX 24 36 1 A M) (hN : NT M) (h : AR 80 c M) : ok (f_Nights_spread_77_80 M) (fun M' => AR 80 (spr P c) M' ∧ fr [80] M M') := by
  unfold f_Nights_spread_77_80
  exact ok_bind (x_s2_80 hP hPA (P - 1) pm_F 1 c M (by omega) (by omega) (by unfold pm_F; omega) (by omega) hc hC hN h) (fun M' h' => ok_some h')
theorem x_k38_80 (hA : WF A) {k : Nat} (hk : (k : Int) < A 5) (hP : A 0 ≤ 5) {so : Nat → Bool} (hso : ∀ s, so s = decide (chn A (hdA A s (A (257 + 3 * k)).toNat) = A (258 + 3 * k))) {c : Nat → Int} (y2 : Int) : ∀ (t n q : Nat) (M : pm_M), q + t = 120 → t < n → CX 24 36 1 A M → NT M → (∀ s, s < 120 → M 80 s = if s < q then kpN so 1000 c s else c s) → ok (f_Nights_keepSeen_77_80_L38 n y2 k (A (257 + 3 * k)) q M) (fun z => ∃ M', z = (y2, (k : Int), M') ∧ AR 80 (kpN so 1000 c) M' ∧ fr [80] M M') := by
  have w5 := hA.2.2.2.2.2.1
  have w8 := hA.2.2.2.2.2.2.2.2.1 k hk
  intro t
  induction t with
  | zero =>
    intro n q M hq hn hC hN h
    cases n with
    | zero => omega
    | succ n =>
      unfold f_Nights_keepSeen_77_80_L38
      refine ok_pos (by omega) (ok_some ⟨M, rfl, fun s hs => ?_, fr_rf _ _⟩)
      rw [h s hs, if_pos (by omega)]
  | succ t ih =>
    intro n q M hq hn hC hN h
    cases n with
    | zero => omega
    | succ n =>
      have hq1 : q < 120 := by omega
      have eq := h q hq1
      rw [if_neg (by omega)] at eq
      obtain ⟨p, ep⟩ : ∃ p : Nat, A (257 + 3 * k) = p := ⟨(A (257 + 3 * k)).toNat, by omega⟩
      rw [ep, tn_nat] at hso
      rw [ep] at ih ⊢
      unfold f_Nights_keepSeen_77_80_L38 f_Told_chinSeen
      rw [i_ad_eq (a := (q : Int)) (by omega)]
      refine ok_neg (by omega) (ok_be (x_headIn hC hN hq1 (by omega)) (ok_be (x_chin hA hC _) ?_))
      rw [if_pos (by omega), tn_nat, (hC.1.2.2.2.2 k (by omega)).2.2]
      refine ok_be rfl (ok_ite (fun g => ?_) (fun g => ok_pos (by omega) (ok_bd ?_)))
      · refine ih n (q + 1) M (by omega) (by omega) hC hN (fun s hs => ?_)
        by_cases e : s = q
        · rw [e, eq, if_pos (by omega)]
          unfold kpN
          rw [hso q, decide_eq_true g, if_pos rfl]
        · rw [h s hs]
          by_cases e2 : s < q
          · rw [if_pos e2, if_pos (by omega)]
          · rw [if_neg e2, if_neg (by omega)]
      · rw [tn_nat]
        have f1 : fr [80] M (pm_ms M 80 q 1000) := fr_ms (by decide)
        refine ok_mono (ih n (q + 1) _ (by omega) (by omega) (CX_fr f1 (by decide) hC) ⟨by rw [f1 78 (by decide)]; exact hN.1, by rw [f1 79 (by decide)]; exact hN.2⟩ (fun s hs => ?_)) ?_
        · rw [msc, aSn]
          by_cases e : s = q
          · rw [if_pos e, if_pos (by omega), e]
            unfold kpN
            rw [hso q, decide_eq_false g, if_neg (by decide)]
          · rw [if_neg e, h s hs]
            by_cases e2 : s < q
            · rw [if_pos e2, if_pos (by omega)]
            · rw [if_neg e2, if_neg (by omega)]
        · rintro z ⟨M', z1, z2, z3⟩
          exact ⟨M', z1, z2, fr_2 f1 z3⟩
theorem x_k2_80 (hA : WF A) (hP : A 0 ≤ 5) {c : Nat → Int} (y2 : Int) : ∀ (t n k : Nat) (M : pm_M), k + t = (A 5).toNat → t < n → CX 24 36 1 A M → NT M → AR 80 (kpN (fun s => sgK A y2 s k) 1000 c) M → ok (f_Nights_keepSeen_77_80_L2 n y2 k M) (fun M' => AR 80 (kpN (sB A y2) 1000 c) M' ∧ fr [80] M M') := by
  have w5 := hA.2.2.2.2.2.1
  intro t
  induction t with
  | zero =>
    intro n k M hk hn hC hN h
    cases n with
    | zero => omega
    | succ n =>
      unfold f_Nights_keepSeen_77_80_L2 f_Told_countSeen
      rw [hC.1.1.2.2.1]
      refine ok_be rfl (ok_pos (by omega) (ok_some ⟨?_, fr_rf _ _⟩))
      rw [show k = (A 5).toNat by omega] at h
      exact h
  | succ t ih =>
    intro n k M hk hn hC hN h
    cases n with
    | zero => omega
    | succ n =>
      have hkk : (k : Int) < A 5 := by omega
      obtain ⟨v1, v2, v3⟩ := hC.1.2.2.2.2 k (by omega)
      unfold f_Nights_keepSeen_77_80_L2 f_Told_countSeen f_Told_nightSeen f_Told_plinthSeen
      rw [hC.1.1.2.2.1, if_pos (by omega), if_pos (by omega), tn_nat, v1, v2]
      refine ok_be rfl (ok_neg (by omega) (ok_be rfl (ok_ite (fun g => ok_be rfl ?_) (fun g => ?_))))
      · refine ok_bind (x_k38_80 hA hkk hP (c := kpN (fun s => sgK A y2 s k) 1000 c) (so := fun s => decide (chn A (hdA A s (A (257 + 3 * k)).toNat) = A (258 + 3 * k))) (fun s => rfl) y2 120 pm_F 0 M (by omega) (by unfold pm_F; omega) hC hN (fun s hs => by rw [if_neg (by omega)]; exact h s hs)) ?_
        rintro _ ⟨M1, rfl, z2, z3⟩
        dsimp only
        rw [i_ad_eq (by omega)]
        refine ok_mono (ih n (k + 1) M1 (by omega) (by omega) (CX_fr z3 (by decide) hC) ⟨by rw [z3 78 (by decide)]; exact hN.1, by rw [z3 79 (by decide)]; exact hN.2⟩ (fun s hs => ?_)) (fun M' h' => ⟨h'.1, fr_2 z3 h'.2⟩)
        rw [z2 s hs]
        exact kpN_2 (by show sgK A y2 s (k + 1) = _; rw [sgK]; unfold sg1; simp [g])
      · rw [i_ad_eq (by omega)]
        refine ih n (k + 1) M (by omega) (by omega) hC hN (fun s hs => ?_)
        rw [h s hs]
        exact kpN_e (by show sgK A y2 s k = sgK A y2 s (k + 1); rw [sgK]; unfold sg1; simp [g])
theorem x_keep_80 {M : pm_M} (hA : WF A) (hP : A 0 ≤ 5) {c : Nat → Int} (n : Int) (hC : CX 24 36 1 A M) (hN : NT M) (h : AR 80 c M) : ok (f_Nights_keepSeen_77_80 n M) (fun M' => AR 80 (kpN (sB A n) 1000 c) M' ∧ fr [80] M M') := by
  have w5 := hA.2.2.2.2.2.1
  unfold f_Nights_keepSeen_77_80
  exact ok_bind (x_k2_80 hA hP n (A 5).toNat pm_F 0 M (by omega) (by unfold pm_F; omega) hC hN (fun s hs => by unfold kpN; exact h s hs)) (fun M' h' => ok_some h')
end
