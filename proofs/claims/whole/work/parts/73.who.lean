/-! NIGHTS: fewest, who: both sides -/
section
variable {A : Nat → Int} {P : Nat}
def rb1 (A : Nat → Int) (P i : Nat) (M : pm_M) : Prop := (∀ s, inS P s → relB (4 * (8 - i : Nat)) (bq A P (8 - i) s) (M 113 (7776 * i + phi (a_row A) s))) ∧ ∀ w, w < 7776 → 0 ≤ M 113 (7776 * i + w) ∧ M 113 (7776 * i + w) ≤ 100000
theorem q_r2 : ∀ (t n q : Nat) (M : pm_M), q + t = 7776 → t < n → (∀ w, w < q → M 113 (62208 + w) = 0) → ok (f_Q_laysRest_L2 n q M) (fun M' => (∀ w, w < 7776 → M' 113 (62208 + w) = 0) ∧ fr [113] M M') := by
  intro t
  induction t with
  | zero =>
    intro n q M hq hn h
    cases n with
    | zero => omega
    | succ n =>
      unfold f_Q_laysRest_L2
      exact ok_pos (by omega) (ok_some ⟨fun w hw => h w (by omega), fr_rf _ _⟩)
  | succ t ih =>
    intro n q M hq hn h
    cases n with
    | zero => omega
    | succ n =>
      unfold f_Q_laysRest_L2
      rw [i_ad_eq (a := 62208) (by omega), i_ad_eq (a := (q : Int)) (by omega), show ((62208 : Int) + (q : Int)).toNat = 62208 + q by omega]
      refine ok_neg (by omega) (ok_pos (by omega) (ok_bd (ok_mono (ih n (q + 1) _ (by omega) (by omega) (fun w hw => ?_)) (fun M' h' => ⟨h'.1, fr_2 (fr_ms (by decide)) h'.2⟩))))
      rw [msc, aSn]
      by_cases e : w = q
      · rw [if_pos (by omega)]
      · rw [if_neg (by omega)]; exact h w (by omega)
theorem q_r41 {j : Nat} (hj : j ≤ 7) (y1 : Int) (M0 : pm_M) : ∀ (t n q : Nat) (M : pm_M), q + t = 7776 → t < n → M 112 = M0 112 → (∀ i, 7776 * j + 7776 ≤ i → M 113 i = M0 113 i) → (∀ w, w < q → M 113 (7776 * j + w) = if M0 112 (7776 * (j + 1) + w) < 100000 then M0 113 (7776 * (j + 1) + w) else 100000) → ok (f_Q_laysRest_L41 n y1 ((7776 * j : Nat) : Int) q M) (fun z => ∃ M', z = (y1, ((7776 * j : Nat) : Int), M') ∧ (∀ w, w < 7776 → M' 113 (7776 * j + w) = if M0 112 (7776 * (j + 1) + w) < 100000 then M0 113 (7776 * (j + 1) + w) else 100000) ∧ (∀ i, 7776 * j + 7776 ≤ i → M' 113 i = M0 113 i) ∧ fr [113] M M') := by
  intro t
  induction t with
  | zero =>
    intro n q M hq hn h12 h13 h
    cases n with
    | zero => omega
    | succ n =>
      unfold f_Q_laysRest_L41
      exact ok_pos (by omega) (ok_some ⟨M, rfl, fun w hw => h w (by omega), h13, fr_rf _ _⟩)
  | succ t ih =>
    intro n q M hq hn h12 h13 h
    cases n with
    | zero => omega
    | succ n =>
      have go : ∀ v, v = (if M0 112 (7776 * (j + 1) + q) < 100000 then M0 113 (7776 * (j + 1) + q) else 100000) → ok (f_Q_laysRest_L41 n y1 ((7776 * j : Nat) : Int) ((q : Int) + 1) (pm_ms M 113 (7776 * j + q) v)) (fun z => ∃ M', z = (y1, ((7776 * j : Nat) : Int), M') ∧ (∀ w, w < 7776 → M' 113 (7776 * j + w) = if M0 112 (7776 * (j + 1) + w) < 100000 then M0 113 (7776 * (j + 1) + w) else 100000) ∧ (∀ i, 7776 * j + 7776 ≤ i → M' 113 i = M0 113 i) ∧ fr [113] M M') := by
        intro v hv
        have f1 : fr [113] M (pm_ms M 113 (7776 * j + q) v) := fr_ms (by decide)
        refine ok_mono (ih n (q + 1) _ (by omega) (by omega) (by rw [f1 112 (by decide)]; exact h12) (fun i hi => by rw [msc, aSn, if_neg (by omega)]; exact h13 i hi) (fun w hw => ?_)) ?_
        · rw [msc, aSn]
          by_cases e : w = q
          · rw [if_pos (by omega), hv, e]
          · rw [if_neg (by omega)]; exact h w (by omega)
        · rintro z ⟨M', z1, z2, z3, z4⟩
          exact ⟨M', z1, z2, z3, fr_2 f1 z4⟩
      unfold f_Q_laysRest_L41
      rw [i_ad_eq (b := 7776) (by omega), i_ad_eq (a := ((7776 * j : Nat) : Int) + 7776) (by omega), i_ad_eq (a := ((7776 * j : Nat) : Int)) (by omega), i_ad_eq (a := (q : Int)) (by omega), show (((7776 * j : Nat) : Int) + 7776 + (q : Int)).toNat = 7776 * (j + 1) + q by omega, show (((7776 * j : Nat) : Int) + (q : Int)).toNat = 7776 * j + q by omega, h12, h13 (7776 * (j + 1) + q) (by omega)]
      refine ok_neg (by omega) (ok_pos (by omega) (ok_ite (fun g => ok_pos (by omega) (ok_bd (go 100000 (by rw [if_neg (by omega)])))) (fun g => ok_pos (by omega) (ok_pos (by omega) (ok_bd (go _ (by rw [if_pos (by omega)])))))))
theorem fin_n (hP : P ≤ 5) (hv : vN A P 8 < 1000) : ∀ k, k ≤ 8 → ∃ s, inS P s ∧ aq A P (8 - k) s < 1000
  | 0, _ => by
    obtain ⟨s, hs, h⟩ := (mns_le (c := fun s => aq A P 8 s + bq A P (8 - 8) s) hv 120).mp (Int.le_refl _)
    have h' : aq A P 8 s + 0 ≤ vN A P 8 := h
    refine ⟨s, ?_, by show aq A P 8 s < 1000; omega⟩
    apply Classical.byContradiction
    intro hn
    have := aq_out (A := A) hP 8 s hs hn
    omega
  | k + 1, hk => by
    obtain ⟨s, hs, h⟩ := fin_n hP hv k (by omega)
    rw [show 8 - k = (8 - (k + 1)) + 1 by omega] at h
    have h2 : spr P (aq A P (8 - (k + 1))) s < 1000 := by
      have e : aq A P (8 - (k + 1) + 1) s = kpN (sB A ((8 - (k + 1) + 1 : Nat) : Int)) 1000 (spr P (aq A P (8 - (k + 1)))) s := rfl
      rw [e] at h
      unfold kpN at h
      split at h
      · exact h
      · omega
    obtain ⟨l1, u1, r1⟩ := spr_ok hP (aq A P (8 - (k + 1)))
    obtain ⟨t, m, a1, a2, a3⟩ := r1 s hs.1
    exact ⟨t, cn_inS hP m s t hs a2, by omega⟩
theorem led_so (hP : P ≤ 5) (hv : vN A P 8 < 1000) {M : pm_M} (hL : ∀ i, i < 9 → rw1 112 A P i (4 * i) (aq A P i) M) {j : Nat} (hj : j ≤ 7) {s : Nat} (hs : inS P s) : M 112 (7776 * (j + 1) + phi (a_row A) s) < 100000 ↔ sB A ((j + 1 : Nat) : Int) s = true := by
  obtain ⟨t, ht, hlt⟩ := fin_n hP hv (8 - j) (by omega)
  rw [show 8 - (8 - j) = j by omega] at hlt
  have rt := (hL j (by omega)).1 t ht
  have hb : aq A P j t ≤ 4 * j := by unfold relB at rt; omega
  have hsf := spr_fin hP ht hb s hs
  have rs := (hL (j + 1) (by omega)).1 s hs
  have e : aq A P (j + 1) s = kpN (sB A ((j + 1 : Nat) : Int)) 1000 (spr P (aq A P j)) s := rfl
  cases hsb : sB A ((j + 1 : Nat) : Int) s
  · have e2 : aq A P (j + 1) s = 1000 := by rw [e]; unfold kpN; rw [hsb]; rfl
    unfold relB at rs
    constructor
    · intro h; omega
    · intro h; cases h
  · have e2 : aq A P (j + 1) s = spr P (aq A P j) s := by rw [e]; unfold kpN; rw [hsb]; rfl
    unfold relB at rs
    exact ⟨fun _ => rfl, fun _ => by omega⟩
theorem q_r29 (hA : WF A) (hPA : A 0 = P) (hP : P ≤ 5) (hv : vN A P 8 < 1000) : ∀ (t n : Nat) (M : pm_M), t ≤ 8 → t < n → M 88 = A → (∀ i, i < 9 → rw1 112 A P i (4 * i) (aq A P i) M) → (∀ i, t ≤ i → i < 9 → rb1 A P i M) → ok (f_Q_laysRest_L29 n ((t : Int) - 1) M) (fun M' => (∀ i, i < 9 → rb1 A P i M') ∧ fr [113] M M') := by
  intro t
  induction t with
  | zero =>
    intro n M ht hn hM hL hR
    cases n with
    | zero => omega
    | succ n =>
      unfold f_Q_laysRest_L29
      exact ok_pos (by omega) (ok_some ⟨fun i hi => hR i (by omega) hi, fr_rf _ _⟩)
  | succ j ih =>
    intro n M ht hn hM hL hR
    cases n with
    | zero => omega
    | succ n =>
      unfold f_Q_laysRest_L29
      rw [show ((j + 1 : Nat) : Int) - 1 = (j : Int) by omega, i_ml_eq (by omega), show (7776 : Int) * (j : Int) = ((7776 * j : Nat) : Int) by omega]
      refine ok_neg (by omega) (ok_bind (q_r41 (j := j) (by omega) j M 7776 pm_F 0 M (by omega) (by unfold pm_F; omega) rfl (fun _ _ => rfl) (fun w hw => by omega)) ?_)
      rintro _ ⟨M1, rfl, a2, a3, a4⟩
      dsimp only
      have r1 := hR (j + 1) (by omega) (by omega)
      have l1 := hL (j + 1) (by omega)
      have m1 : M1 88 = A := by rw [a4 88 (by decide)]; exact hM
      refine ok_bind (q_spr113 (o := 7776 * j) hP (by omega) hPA m1 (fun w hw hne => ?_) (fun w hw => ?_)) (fun M2 h2 => ?_)
      · rw [a2 w hw, l1.2.1 w hw hne, if_neg (by omega)]
      · rw [a2 w hw]
        have := r1.2 w hw
        split
        · exact this
        · omega
      obtain ⟨b1, b2, b3, b4, b5⟩ := h2
      rw [i_ad_eq (by omega), show (j : Int) + -1 = (j : Int) - 1 by omega]
      have f2 : fr [113] M M2 := fr_2 a4 b5
      have l112 : M2 112 = M 112 := f2 112 (by decide)
      refine ok_mono (ih n M2 (by omega) (by omega) (by rw [f2 88 (by decide)]; exact hM) (fun i hi => rw1_eq (hL i hi) (fun w _ => by rw [l112])) (fun i h1 h2 => ?_)) (fun M' h' => ⟨h'.1, fr_2 f2 h'.2⟩)
      by_cases e : i = j
      · subst e
        refine ⟨fun s hs => ?_, b3⟩
        rw [b1 s hs]
        have hrel : ∀ s, inS P s → relB (4 * (8 - (i + 1) : Nat)) (kpN (sB A ((i + 1 : Nat) : Int)) 1000 (bq A P (8 - (i + 1))) s) ((fun s => M1 113 (7776 * i + phi (a_row A) s)) s) := by
          intro s hs
          show relB _ _ (M1 113 (7776 * i + phi (a_row A) s))
          rw [a2 _ (phi_lt _ hs.1)]
          have hiff := led_so hP hv hL (j := i) (by omega) hs
          unfold kpN
          cases hsb : sB A ((i + 1 : Nat) : Int) s
          · rw [if_neg (by decide), if_neg (fun z => by rw [hiff.mp z] at hsb; cases hsb)]
            exact Or.inr ⟨rfl, rfl⟩
          · rw [if_pos rfl, if_pos (hiff.mpr hsb)]
            exact r1.1 s hs
        have := rel_spr hP (B := 4 * (8 - (i + 1) : Nat)) (by omega) hrel s hs
        have eb : bq A P (8 - i) = spr P (kpN (sB A ((i + 1 : Nat) : Int)) 1000 (bq A P (8 - (i + 1)))) := by
          rw [show 8 - i = (8 - (i + 1)) + 1 by omega, bq, show 8 - (8 - (i + 1)) = i + 1 by omega]
        rw [eb, show (4 : Int) * ((8 - i : Nat) : Int) = 4 * ((8 - (i + 1) : Nat) : Int) + 4 by omega]
        exact this
      · have hold := hR i (by omega) h2
        have eqw : ∀ w, w < 7776 → M2 113 (7776 * i + w) = M 113 (7776 * i + w) := fun w hw => by rw [b4 _ (by omega), a3 _ (by omega)]
        exact ⟨fun s hs => by rw [eqw _ (phi_lt _ hs.1)]; exact hold.1 s hs, fun w hw => by rw [eqw w hw]; exact hold.2 w hw⟩
theorem q_rest {M : pm_M} (hA : WF A) (hPA : A 0 = P) (hP : P ≤ 5) (hv : vN A P 8 < 1000) (hM : M 88 = A) (hL : ∀ i, i < 9 → rw1 112 A P i (4 * i) (aq A P i) M) : ok (f_Q_laysRest M) (fun M' => (∀ i, i < 9 → rb1 A P i M') ∧ fr [113] M M') := by
  unfold f_Q_laysRest
  refine ok_bind (q_r2 7776 pm_F 0 M (by omega) (by unfold pm_F; omega) (fun w hw => by omega)) (fun M1 h1 => ?_)
  have := q_r29 hA hPA hP hv 8 pm_F M1 (by omega) (by unfold pm_F; omega) (by rw [h1.2 88 (by decide)]; exact hM) (fun i hi => rw1_eq (hL i hi) (fun w _ => by rw [h1.2 112 (by decide)])) (fun i g1 g2 => by
    rw [show i = 8 by omega]
    refine ⟨fun s hs => ?_, fun w hw => ?_⟩
    · rw [show 7776 * 8 + phi (a_row A) s = 62208 + phi (a_row A) s by omega, h1.1 _ (phi_lt _ hs.1)]
      exact Or.inl ⟨by show (0 : Int) ≤ 0; omega, by show (0 : Int) ≤ _; omega, rfl⟩
    · rw [show 7776 * 8 + w = 62208 + w by omega, h1.1 w hw]; omega)
  rw [show ((8 : Nat) : Int) - 1 = 7 from rfl] at this
  exact ok_bind this (fun M2 h2 => ok_some ⟨h2.1, fr_2 h1.2 h2.2⟩)
-- the least doesn't depend on the night
theorem vN_n (hP : P ≤ 5) {m : Int} (hm : m < 1000) : ∀ k, k ≤ 8 → (vN A P (8 - k) ≤ m ↔ vN A P 8 ≤ m)
  | 0, _ => Iff.rfl
  | k + 1, hk => by
    rw [← vN_n hP hm k (by omega)]
    unfold vN
    rw [mns_le hm, mns_le hm]
    have := adj (P := P) hP (so := sB A ((8 - (k + 1) + 1 : Nat) : Int)) (a := aq A P (8 - (k + 1))) (b := bq A P k) (fun s hs => (bd_aq hP _ s hs).1) (fun s hs => (bd_bq hP _ s hs).1) hm
    have e1 : aq A P (8 - k) = kpN (sB A ((8 - (k + 1) + 1 : Nat) : Int)) 1000 (spr P (aq A P (8 - (k + 1)))) := by rw [show 8 - k = (8 - (k + 1)) + 1 by omega]; rfl
    have e2 : bq A P (8 - (8 - (k + 1))) = spr P (kpN (sB A ((8 - (k + 1) + 1 : Nat) : Int)) 1000 (bq A P k)) := by rw [show 8 - (8 - (k + 1)) = k + 1 by omega, bq, show 8 - k = 8 - (k + 1) + 1 by omega]
    have e3 : bq A P (8 - (8 - k)) = bq A P k := by rw [show 8 - (8 - k) = k by omega]
    rw [e1, e2, e3]
    exact this
theorem vN_eq (hP : P ≤ 5) {N : Nat} (hN : N ≤ 8) : (if 1000 ≤ vN A P N then (-1 : Int) else vN A P N) = if 1000 ≤ vN A P 8 then -1 else vN A P 8 := by
  have hk : ∀ m : Int, m < 1000 → (vN A P N ≤ m ↔ vN A P 8 ≤ m) := fun m hm => by
    have := vN_n (A := A) hP hm (8 - N) (by omega)
    rw [show 8 - (8 - N) = N by omega] at this
    exact this
  by_cases h1 : 1000 ≤ vN A P N
  · rw [if_pos h1, if_pos]
    apply Classical.byContradiction
    intro h2
    have := (hk (vN A P 8) (by omega)).mpr (Int.le_refl _)
    omega
  · have a := (hk (vN A P N) (by omega)).mp (Int.le_refl _)
    have b := (hk (vN A P 8) (by omega)).mpr (Int.le_refl _)
    rw [if_neg h1, if_neg (by omega)]
    omega
def hbt (h : Int) : Nat := if h = -1 then 12 else h.toNat
theorem or_bit {b q : Nat} (hb : b < 8192) (hq : q ≤ 12) : b ||| 2 ^ q < 8192 := by
  have : 2 ^ q < 2 ^ 13 := Nat.pow_lt_pow_right (by omega) (by omega)
  exact Nat.or_lt_two_pow (n := 13) hb this
theorem hd_b (hA : WF A) {s p : Nat} (hs : s < 120) (hp : p < 5) : -1 ≤ hdA A s p ∧ hdA A s p < 12 := by
  have h5 := getD_lt hs hp
  have hr := hA.2.2.2.2.2.2.2.2.2.1.1 ((wr s).getD p 0) (by omega)
  have w1 := hA.2.1
  unfold hdA
  omega
theorem x_heads {M : pm_M} (hA : WF A) (hC : CX 24 36 1 A M) (hN : NT M) {N p : Nat} (hP : P ≤ 5) (hp : p < 5) (h80 : AR 80 (aq A P N) M) (h81 : AR 81 (bq A P (8 - N)) M) (h8 : M 77 8 = vN A P N) : ∀ (t n q b : Nat), q + t = 120 → t < n → b < 8192 → (∀ i, b.testBit i = true ↔ ∃ s, s < q ∧ aq A P N s + bq A P (8 - N) s = vN A P N ∧ hbt (hdA A s p) = i) → ∃ b', f_Nights_headsAt_L4 M n p b q = some ((b' : Nat) : Int) ∧ b' < 8192 ∧ ∀ i, b'.testBit i = true ↔ ∃ s, s < 120 ∧ aq A P N s + bq A P (8 - N) s = vN A P N ∧ hbt (hdA A s p) = i := by
  intro t
  induction t with
  | zero =>
    intro n q b hq hn hb h
    cases n with
    | zero => omega
    | succ n =>
      unfold f_Nights_headsAt_L4
      rw [if_pos (by omega)]
      rw [show q = 120 by omega] at h
      exact ⟨b, rfl, hb, h⟩
  | succ t ih =>
    intro n q b hq hn hb h
    cases n with
    | zero => omega
    | succ n =>
      have hq1 : q < 120 := by omega
      have ba := bd_aq (A := A) (P := P) hP N q hq1
      have bb := bd_bq (A := A) (P := P) hP (8 - N) q hq1
      have hh := hd_b hA hq1 hp
      unfold f_Nights_headsAt_L4
      rw [if_neg (by omega), if_pos (by omega), if_pos (by omega), tn_nat, h80 q hq1, h81 q hq1, h8, i_ad_eq (a := aq A P N q) (by omega), i_ad_eq (a := (q : Int)) (by omega), x_headIn hC hN hq1 hp, ob]
      by_cases g : aq A P N q + bq A P (8 - N) q = vN A P N
      · rw [if_pos g]
        have nxt : ∀ b', b' = b ||| 2 ^ hbt (hdA A q p) → ∃ b'', f_Nights_headsAt_L4 M n p ((b' : Nat) : Int) ((q : Int) + 1) = some ((b'' : Nat) : Int) ∧ b'' < 8192 ∧ ∀ i, b''.testBit i = true ↔ ∃ s, s < 120 ∧ aq A P N s + bq A P (8 - N) s = vN A P N ∧ hbt (hdA A s p) = i := by
          intro b' hb'
          refine ih n (q + 1) b' (by omega) (by omega) ?_ (fun i => ?_)
          · rw [hb']; exact or_bit hb (by unfold hbt; split <;> omega)
          · rw [hb', tb_or, Bool.or_eq_true, h i, decide_eq_true_iff]
            constructor
            · rintro (⟨s, h1, h2, h3⟩ | h1)
              · exact ⟨s, by omega, h2, h3⟩
              · exact ⟨q, by omega, g, h1⟩
            · rintro ⟨s, h1, h2, h3⟩
              by_cases e : s = q
              · rw [e] at h3; exact Or.inr h3
              · exact Or.inl ⟨s, by omega, h2, h3⟩
        by_cases g2 : hdA A q p = -1
        · rw [if_pos g2, show (4096 : Int) = ((4096 : Nat) : Int) from rfl, i_or_n (by omega) (by omega)]
          exact nxt _ (by unfold hbt; rw [if_pos g2])
        · rw [if_neg g2]
          dsimp only [pm_bd]
          obtain ⟨h', eh⟩ : ∃ h' : Nat, hdA A q p = h' := ⟨(hdA A q p).toNat, by omega⟩
          rw [eh, or_sl (by omega) (by omega)]
          refine nxt _ ?_
          unfold hbt
          rw [eh, if_neg (by omega), tn_nat]
      · rw [if_neg g]
        refine ih n (q + 1) b (by omega) (by omega) hb (fun i => ?_)
        rw [h i]
        constructor
        · rintro ⟨s, h1, h2, h3⟩; exact ⟨s, by omega, h2, h3⟩
        · rintro ⟨s, h1, h2, h3⟩
          by_cases e : s = q
          · rw [e] at h2; exact absurd h2 g
          · exact ⟨s, by omega, h2, h3⟩
theorem q_heads {M : pm_M} (hA : WF A) (hPA : A 0 = P) (hP : P ≤ 5) (hS : STD A P M) {N p : Nat} (hN : N ≤ 8) (hp : p < P) (hv : vN A P N < 1000) (hL : rw1 112 A P N (4 * N) (aq A P N) M) (hR : rb1 A P N M) : ∀ (t n q b : Nat), q + t = 7776 → t < n → b < 8192 → (∀ i, b.testBit i = true ↔ ∃ s, inS P s ∧ phi (a_row A) s < q ∧ aq A P N s + bq A P (8 - N) s = vN A P N ∧ hbt (hdA A s p) = i) → ∃ b', f_Q_who_L52 M n N p (vN A P N) b q = some ((b' : Nat) : Int) ∧ b' < 8192 ∧ ∀ i, b'.testBit i = true ↔ ∃ s, inS P s ∧ aq A P N s + bq A P (8 - N) s = vN A P N ∧ hbt (hdA A s p) = i := by
  have w1 := hA.2.1
  intro t
  induction t with
  | zero =>
    intro n q b hq hn hb h
    cases n with
    | zero => omega
    | succ n =>
      unfold f_Q_who_L52
      rw [if_pos (by omega)]
      refine ⟨b, rfl, hb, fun i => ?_⟩
      rw [h i]
      constructor
      · rintro ⟨s, h1, _, h2, h3⟩; exact ⟨s, h1, h2, h3⟩
      · rintro ⟨s, h1, h2, h3⟩; exact ⟨s, h1, by have := phi_lt (a_row A) h1.1; omega, h2, h3⟩
  | succ t ih =>
    intro n q b hq hn hb h
    cases n with
    | zero => omega
    | succ n =>
      have skip : (∀ s, inS P s → phi (a_row A) s = q → aq A P N s + bq A P (8 - N) s ≠ vN A P N) → ∃ b', f_Q_who_L52 M n N p (vN A P N) b ((q : Int) + 1) = some ((b' : Nat) : Int) ∧ b' < 8192 ∧ ∀ i, b'.testBit i = true ↔ ∃ s, inS P s ∧ aq A P N s + bq A P (8 - N) s = vN A P N ∧ hbt (hdA A s p) = i := by
        intro hne
        refine ih n (q + 1) b (by omega) (by omega) hb (fun i => ?_)
        rw [h i]
        constructor
        · rintro ⟨s, h1, h2, h3, h4⟩; exact ⟨s, h1, by omega, h3, h4⟩
        · rintro ⟨s, h1, h2, h3, h4⟩
          by_cases e : phi (a_row A) s = q
          · exact absurd h3 (hne s h1 e)
          · exact ⟨s, h1, by omega, h3, h4⟩
      have b12 := hL.2.2 q (by omega)
      have b13 := hR.2 q (by omega)
      unfold f_Q_who_L52
      rw [if_neg (by omega), i_ml_eq (by omega), i_ad_eq (a := 7776 * (N : Int)) (by omega), i_ad_eq (a := (q : Int)) (by omega), if_pos (by omega), show (7776 * (N : Int) + (q : Int)).toNat = 7776 * N + q by omega]
      have vals : ∀ s, inS P s → phi (a_row A) s = q → relB (4 * N) (aq A P N s) (M 112 (7776 * N + q)) ∧ relB (4 * (8 - N : Nat)) (bq A P (8 - N) s) (M 113 (7776 * N + q)) := fun s hs he => by
        have h1 := hL.1 s hs
        have h2 := hR.1 s hs
        rw [he] at h1 h2
        exact ⟨h1, h2⟩
      by_cases g : 100000 ≤ M 112 (7776 * N + q)
      · rw [if_pos g]
        refine skip (fun s hs he heq => ?_)
        have v := vals s hs he
        have := bd_bq (A := A) (P := P) hP (8 - N) s hs.1
        unfold relB at v
        omega
      · rw [if_neg g, if_pos (by omega), if_pos (by omega), i_ad_eq (by omega)]
        have hex : ∃ s, inS P s ∧ phi (a_row A) s = q := by
          apply Classical.byContradiction
          intro hne
          have := hL.2.1 q (by omega) (fun s hs he => hne ⟨s, hs, he⟩)
          omega
        obtain ⟨s, hs, rfl⟩ := hex
        by_cases g2 : M 112 (7776 * N + phi (a_row A) s) + M 113 (7776 * N + phi (a_row A) s) = vN A P N
        · rw [if_pos g2, q_at6 hs.1 (by omega), ob]
          have cnd : ∀ s', inS P s' → phi (a_row A) s' = phi (a_row A) s → aq A P N s' + bq A P (8 - N) s' = vN A P N := fun s' hs' he => by
            have v := vals s' hs' he
            unfold relB at v
            omega
          have sameH : ∀ s', inS P s' → phi (a_row A) s' = phi (a_row A) s → hdA A s' p = hdA A s p := fun s' hs' he => by
            have hd := (phi_d hs'.1 hs.1).mp he p (by omega)
            unfold hdA
            exact (dgt_r hA (by have := getD_lt hs'.1 (show p < 5 by omega); omega) (by have := getD_lt hs.1 (show p < 5 by omega); omega)).mp hd
          have nxt : ∀ b', b' = b ||| 2 ^ hbt (hdA A s p) → ∃ b'', f_Q_who_L52 M n N p (vN A P N) ((b' : Nat) : Int) ((phi (a_row A) s : Int) + 1) = some ((b'' : Nat) : Int) ∧ b'' < 8192 ∧ ∀ i, b''.testBit i = true ↔ ∃ s, inS P s ∧ aq A P N s + bq A P (8 - N) s = vN A P N ∧ hbt (hdA A s p) = i := by
            intro b' hb'
            have hh := hd_b hA hs.1 (show p < 5 by omega)
            refine ih n (phi (a_row A) s + 1) b' (by omega) (by omega) ?_ (fun i => ?_)
            · rw [hb']; exact or_bit hb (by unfold hbt; split <;> omega)
            · rw [hb', tb_or, Bool.or_eq_true, h i, decide_eq_true_iff]
              constructor
              · rintro (⟨s', h1, h2, h3, h4⟩ | h1)
                · exact ⟨s', h1, by omega, h3, h4⟩
                · exact ⟨s, hs, by omega, cnd s hs rfl, h1⟩
              · rintro ⟨s', h1, h2, h3, h4⟩
                by_cases e : phi (a_row A) s' = phi (a_row A) s
                · rw [sameH s' h1 e] at h4; exact Or.inr h4
                · exact Or.inl ⟨s', h1, by omega, h3, h4⟩
          have h5 := getD_lt hs.1 (show p < 5 by omega)
          have hr := hA.2.2.2.2.2.2.2.2.2.1.1 ((wr s).getD p 0) (by omega)
          by_cases g3 : a_row A ((wr s).getD p 0) = -1
          · have ed : dS (a_row A) s p = 0 := by unfold dS dgt; rw [if_pos g3]
            rw [ed, if_pos (by omega), show (4096 : Int) = ((4096 : Nat) : Int) from rfl, i_or_n (by omega) (by omega)]
            exact nxt _ (by unfold hbt hdA; rw [if_pos g3])
          · have hqP : (wr s).getD p 0 < P := by
              apply Classical.byContradiction
              intro hc
              exact g3 (hr.2.2 (by omega))
            have ed : dS (a_row A) s p = cnt (a_row A) ((wr s).getD p 0) + 1 := by unfold dS dgt; rw [if_neg g3, cnt, if_neg g3]
            have hst := hS _ hqP g3
            have hcl := cnt_le (a_row A) ((wr s).getD p 0)
            rw [ed, if_neg (by omega), i_sb_eq (by omega), if_pos (by omega), show (((cnt (a_row A) ((wr s).getD p 0) + 1 : Nat) : Int) - 1).toNat = cnt (a_row A) ((wr s).getD p 0) by omega, hst]
            dsimp only [pm_bd]
            obtain ⟨h', eh⟩ : ∃ h' : Nat, a_row A ((wr s).getD p 0) = h' := ⟨(a_row A ((wr s).getD p 0)).toNat, by omega⟩
            rw [eh, or_sl (by omega) (by omega)]
            refine nxt _ ?_
            unfold hbt hdA
            rw [eh, if_neg (by omega), tn_nat]
        · rw [if_neg g2]
          refine skip (fun s' hs' he heq => g2 ?_)
          have v := vals s' hs' he
          have := bd_bq (A := A) (P := P) hP (8 - N) s' hs'.1
          have := bd_aq (A := A) (P := P) hP N s' hs'.1
          unfold relB at v
          omega
end
