/-! NIGHTS: the class's search -/
def lk1 (A : Nat → Int) (P s p : Nat) : Bool := decide ((wr s).getD p 0 = p) || (decide (p < P) && decide (hdA A s p = a_row A p))
def lkR (A : Nat → Int) (P s : Nat) : Nat → Nat → Bool
  | 0, _ => true
  | k + 1, p => lk1 A P s p && lkR A P s k (p + 1)
def lkn (A : Nat → Int) (P s : Nat) : Bool := lkR A P s 5 0
def aq (A : Nat → Int) (P : Nat) : Nat → Nat → Int
  | 0 => fun s => if lkn A P s then 0 else 1000
  | n + 1 => kpN (sB A ((n + 1 : Nat) : Int)) 1000 (spr P (aq A P n))
def bq (A : Nat → Int) (P : Nat) : Nat → Nat → Int
  | 0 => fun _ => 0
  | k + 1 => spr P (kpN (sB A ((8 - k : Nat) : Int)) 1000 (bq A P k))
def mns (c : Nat → Int) : Nat → Int
  | 0 => 1000
  | k + 1 => i_mn (mns c k) (c k)
theorem aq_0 (A : Nat → Int) (P s : Nat) : aq A P 0 s = if lkn A P s then 0 else 1000 := rfl
theorem bq_0 (A : Nat → Int) (P s : Nat) : bq A P 0 s = 0 := rfl
section
variable {A : Nat → Int} {P : Nat}
theorem bd_aq (hP : P ≤ 5) : ∀ n, bd (aq A P n)
  | 0 => fun s _ => by rw [aq_0]; split <;> omega
  | n + 1 => bd_kp (bd_spr hP (bd_aq hP n))
theorem bd_bq (hP : P ≤ 5) : ∀ n, bd (bq A P n)
  | 0 => fun s _ => by rw [bq_0]; omega
  | n + 1 => bd_spr hP (bd_kp (bd_bq hP n))
theorem x_lk {M : pm_M} (hA : WF A) (hPA : A 0 = P) (hC : CX 24 36 1 A M) (hN : NT M) {s : Nat} (hs : s < 120) : ∀ (k n p : Nat), p + k = 5 → k < n → f_Nights_looksAsNow_L2 M n s p = some (if lkR A P s k p then .inr () else .inl ()) := by
  intro k
  induction k with
  | zero =>
    intro n p hp hn
    cases n with
    | zero => omega
    | succ n =>
      unfold f_Nights_looksAsNow_L2
      rw [if_pos (by omega)]; rfl
  | succ k ih =>
    intro n p hp hn
    cases n with
    | zero => omega
    | succ n =>
      have hih := ih n (p + 1) (by omega) (by omega)
      rw [show ((p + 1 : Nat) : Int) = (p : Int) + 1 by omega] at hih
      unfold f_Nights_looksAsNow_L2 f_Told_plinths
      rw [if_neg (by omega), i_ml_eq (by omega), i_ad_eq (a := (s : Int) * 5) (by omega), i_ad_eq (a := (p : Int)) (by omega), if_pos (by omega), show ((s : Int) * 5 + (p : Int)).toNat = 5 * s + p by omega, hN.1 s p hs (by omega), hih, hC.1.1.1, hPA, ob, lkR]
      unfold lk1
      by_cases e1 : (wr s).getD p 0 = p
      · rw [if_pos (by omega), decide_eq_true e1, Bool.true_or, Bool.true_and]
      · rw [if_neg (by omega), decide_eq_false e1, Bool.false_or]
        by_cases e2 : (P : Int) ≤ p
        · rw [if_pos e2, decide_eq_false (show ¬ (p < P) by omega), Bool.false_and, Bool.false_and]; rfl
        · rw [if_neg e2, decide_eq_true (show p < P by omega), Bool.true_and, x_headIn hC hN hs (by omega), ob, x_headAt hC.2.1 (by omega), ob, tn_nat]
          by_cases e3 : hdA A s p = a_row A p
          · rw [if_pos e3, decide_eq_true e3, Bool.true_and]
          · rw [if_neg e3, decide_eq_false e3, Bool.false_and]; rfl
theorem x_s31 (hA : WF A) (hPA : A 0 = P) (y1 : Int) : ∀ (k n s : Nat) (M : pm_M), s + k = 120 → k < n → CX 24 36 1 A M → NT M → (∀ t, t < s → M 80 t = aq A P 0 t ∧ M 81 t = 0) → ok (f_Nights_search_L31 n y1 s M) (fun z => z.1 = y1 ∧ AR 80 (aq A P 0) z.2 ∧ AR 81 (bq A P 0) z.2 ∧ fr [80, 81] M z.2) := by
  intro k
  induction k with
  | zero =>
    intro n s M hs hn hC hN h
    cases n with
    | zero => omega
    | succ n =>
      unfold f_Nights_search_L31
      exact ok_pos (by omega) (ok_some ⟨rfl, fun t ht => (h t (by omega)).1, fun t ht => (h t (by omega)).2, fr_rf _ _⟩)
  | succ k ih =>
    intro n s M hs hn hC hN h
    cases n with
    | zero => omega
    | succ n =>
      have hl := x_lk hA hPA hC hN (show s < 120 by omega) 5 pm_F 0 (by omega) (by unfold pm_F; omega)
      rw [show ((0 : Nat) : Int) = 0 from rfl] at hl
      have go : ∀ v, v = aq A P 0 s → ok (f_Nights_search_L31 n y1 ((s : Int) + 1) (pm_ms (pm_ms M 80 s v) 81 s 0)) (fun z => z.1 = y1 ∧ AR 80 (aq A P 0) z.2 ∧ AR 81 (bq A P 0) z.2 ∧ fr [80, 81] M z.2) := by
        intro v hv
        have f1 : fr [80, 81] M (pm_ms (pm_ms M 80 s v) 81 s 0) := fr_2 (fr_ms (by decide)) (fr_ms (by decide))
        refine ok_mono (ih n (s + 1) _ (by omega) (by omega) (CX_fr f1 (by decide) hC) ⟨by rw [f1 78 (by decide)]; exact hN.1, by rw [f1 79 (by decide)]; exact hN.2⟩ (fun t ht => ?_)) (fun z hz => ⟨hz.1, hz.2.1, hz.2.2.1, fr_2 f1 hz.2.2.2⟩)
        rw [pm_ms_ne (show (80 : Nat) ≠ 81 by omega), msc, aSn, msc, aSn, pm_ms_ne (show (81 : Nat) ≠ 80 by omega)]
        by_cases e : t = s
        · rw [if_pos e, if_pos e, e]; exact ⟨hv, rfl⟩
        · rw [if_neg e, if_neg e]; exact h t (by omega)
      unfold f_Nights_search_L31 f_Nights_looksAsNow
      rw [hl, ob, tn_nat, i_ad_eq (by omega)]
      refine ok_neg (by omega) ?_
      cases hk : lkR A P s 5 0
      · rw [if_neg (by decide)]
        refine ok_be rfl (ok_pos rfl (ok_pos (by omega) (ok_bd (ok_pos (by omega) (ok_bd (go 1000 ?_))))))
        rw [aq_0]; unfold lkn; rw [hk]; rfl
      · rw [if_pos rfl]
        refine ok_be rfl (ok_neg (by omega) (ok_pos (by omega) (ok_bd (ok_pos (by omega) (ok_bd (go 0 ?_))))))
        rw [aq_0]; unfold lkn; rw [hk]; rfl
theorem x_s73 (hA : WF A) (hP : P ≤ 5) (hPA : A 0 = P) {N : Nat} (hN8 : N ≤ 8) : ∀ (k n i : Nat) (M : pm_M), i + k = N → k < n → CX 24 36 1 A M → NT M → AR 80 (aq A P i) M → ok (f_Nights_search_L73 n N ((i + 1 : Nat) : Int) M) (fun z => z.1 = N ∧ AR 80 (aq A P N) z.2 ∧ fr [80] M z.2) := by
  intro k
  induction k with
  | zero =>
    intro n i M hi hn hC hN h
    cases n with
    | zero => omega
    | succ n =>
      unfold f_Nights_search_L73
      refine ok_pos (by omega) (ok_some ⟨rfl, ?_, fr_rf _ _⟩)
      rw [show i = N by omega] at h; exact h
  | succ k ih =>
    intro n i M hi hn hC hN h
    cases n with
    | zero => omega
    | succ n =>
      unfold f_Nights_search_L73
      refine ok_neg (by omega) (ok_bind (x_spread_80 hP hPA (bd_aq hP i) hC hN h) (fun M1 h1 => ?_))
      refine ok_bind (x_keep_80 hA (by omega) _ (CX_fr h1.2 (by decide) hC) ⟨by rw [h1.2 78 (by decide)]; exact hN.1, by rw [h1.2 79 (by decide)]; exact hN.2⟩ h1.1) (fun M2 h2 => ?_)
      have f2 : fr [80] M M2 := fr_2 h1.2 h2.2
      rw [i_ad_eq (by omega)]
      exact ok_mono (ih n (i + 1) M2 (by omega) (by omega) (CX_fr f2 (by decide) hC) ⟨by rw [f2 78 (by decide)]; exact hN.1, by rw [f2 79 (by decide)]; exact hN.2⟩ h2.1) (fun z hz => ⟨hz.1, hz.2.1, fr_2 f2 hz.2.2⟩)
theorem x_s104 (hA : WF A) (hP : P ≤ 5) (hPA : A 0 = P) {N : Nat} (hN8 : N ≤ 8) : ∀ (k n i : Nat) (M : pm_M), i = N + k → i ≤ 8 → k < n → CX 24 36 1 A M → NT M → AR 81 (bq A P (8 - i)) M → ok (f_Nights_search_L104 n N i M) (fun M' => AR 81 (bq A P (8 - N)) M' ∧ fr [81] M M') := by
  intro k
  induction k with
  | zero =>
    intro n i M hi hi8 hn hC hN h
    cases n with
    | zero => omega
    | succ n =>
      unfold f_Nights_search_L104
      refine ok_pos (by omega) (ok_some ⟨?_, fr_rf _ _⟩)
      rw [show i = N by omega] at h; exact h
  | succ k ih =>
    intro n i M hi hi8 hn hC hN h
    cases n with
    | zero => omega
    | succ n =>
      unfold f_Nights_search_L104
      refine ok_neg (by omega) (ok_bind (x_keep_81 hA (by omega) _ hC hN h) (fun M1 h1 => ?_))
      refine ok_bind (x_spread_81 hP hPA (bd_kp (bd_bq hP _)) (CX_fr h1.2 (by decide) hC) ⟨by rw [h1.2 78 (by decide)]; exact hN.1, by rw [h1.2 79 (by decide)]; exact hN.2⟩ h1.1) (fun M2 h2 => ?_)
      have f2 : fr [81] M M2 := fr_2 h1.2 h2.2
      rw [i_ad_eq (by omega), show (i : Int) + -1 = ((i - 1 : Nat) : Int) by omega]
      refine ok_mono (ih n (i - 1) M2 (by omega) (by omega) (by omega) (CX_fr f2 (by decide) hC) ⟨by rw [f2 78 (by decide)]; exact hN.1, by rw [f2 79 (by decide)]; exact hN.2⟩ ?_) (fun M' hz => ⟨hz.1, fr_2 f2 hz.2⟩)
      have h21 := h2.1
      rw [show 8 - (i - 1) = (8 - i) + 1 by omega, bq, show 8 - (8 - i) = i by omega]
      exact h21
theorem mns_b {c : Nat → Int} (hc : ∀ s, s < 120 → 0 ≤ c s) : ∀ k, k ≤ 120 → 0 ≤ mns c k ∧ mns c k ≤ 1000
  | 0, _ => by rw [mns]; omega
  | k + 1, hk => by
    have h1 := mns_b hc k (by omega)
    have h2 := hc k (by omega)
    rw [mns]; unfold i_mn; split <;> omega
theorem mns_le {c : Nat → Int} {m : Int} (hm : m < 1000) : ∀ k, mns c k ≤ m ↔ ∃ s, s < k ∧ c s ≤ m
  | 0 => by rw [mns]; exact ⟨fun h => by omega, fun ⟨s, h, _⟩ => by omega⟩
  | k + 1 => by
    rw [mns]
    have ih := mns_le (c := c) hm k
    constructor
    · intro h
      by_cases h1 : c k ≤ m
      · exact ⟨k, by omega, h1⟩
      · have : mns c k ≤ m := by unfold i_mn at h; split at h <;> omega
        obtain ⟨s, h2, h3⟩ := ih.mp this
        exact ⟨s, by omega, h3⟩
    · rintro ⟨s, h1, h2⟩
      by_cases e : s = k
      · rw [e] at h2; unfold i_mn; split <;> omega
      · have := ih.mpr ⟨s, by omega, h2⟩
        unfold i_mn; split <;> omega
theorem x_s141 {a b : Nat → Int} (ha : bd a) (hb : bd b) : ∀ (k n s : Nat) (M : pm_M), s + k = 120 → k < n → AR 80 a M → AR 81 b M → M 77 8 = mns (fun s => a s + b s) s → ok (f_Nights_search_L141 n s M) (fun M' => M' 77 8 = mns (fun s => a s + b s) 120 ∧ (∀ i, i ≠ 8 → M' 77 i = M 77 i) ∧ fr [77] M M') := by
  intro k
  induction k with
  | zero =>
    intro n s M hs hn h1 h2 h3
    cases n with
    | zero => omega
    | succ n =>
      unfold f_Nights_search_L141
      refine ok_pos (by omega) (ok_some ⟨?_, fun _ _ => rfl, fr_rf _ _⟩)
      rw [show s = 120 by omega] at h3; exact h3
  | succ k ih =>
    intro n s M hs hn h1 h2 h3
    cases n with
    | zero => omega
    | succ n =>
      have b1 := ha s (by omega)
      have b2 := hb s (by omega)
      unfold f_Nights_search_L141
      rw [tn_nat, h1 s (by omega), h2 s (by omega), h3, i_ad_eq (a := a s) (by omega), i_ad_eq (a := (s : Int)) (by omega)]
      refine ok_neg (by omega) (ok_pos (by omega) (ok_pos (by omega) (ok_bd ?_)))
      have f1 : fr [77] M (pm_ms M 77 8 (i_mn (mns (fun s => a s + b s) s) (a s + b s))) := fr_ms (by decide)
      refine ok_mono (ih n (s + 1) _ (by omega) (by omega) (fun t ht => by rw [f1 80 (by decide)]; exact h1 t ht) (fun t ht => by rw [f1 81 (by decide)]; exact h2 t ht) (by rw [msc, aSn, if_pos rfl, mns])) (fun M' hz => ⟨hz.1, fun i hi => by rw [hz.2.1 i hi, msc, aSn, if_neg hi], fr_2 f1 hz.2.2⟩)
def vN (A : Nat → Int) (P N : Nat) : Int := mns (fun s => aq A P N s + bq A P (8 - N) s) 120
theorem x_search {M : pm_M} (hA : WF A) (hPA : A 0 = P) (hP : P ≤ 5) {N : Nat} (hN8 : N ≤ 8) (hC : CX 24 36 1 A M) (hT : M 77 7 = 0 ∨ NT M) : ok (f_Nights_search N M) (fun y => y.1 = (if 1000 ≤ vN A P N then -1 else vN A P N) ∧ AR 80 (aq A P N) y.2 ∧ AR 81 (bq A P (8 - N)) y.2 ∧ NT y.2 ∧ y.2 77 8 = vN A P N ∧ fr [77, 78, 79, 80, 81, 82] M y.2) := by
  have main : ∀ (M1 : pm_M), NT M1 → CX 24 36 1 A M1 → fr [77, 78, 79, 82] M M1 → ok ((f_Nights_search_L31 pm_F N 0 M1).bind fun e477 => (f_Nights_search_L73 pm_F e477.1 1 e477.2).bind fun e496 => (f_Nights_search_L104 pm_F e496.1 8 e496.2).bind fun e515 => pm_bd (pm_ms e515 77 8 1000) fun M516 => (f_Nights_search_L141 pm_F 0 M516).bind fun e518 => if 1000 ≤ (e518 77 8) then some ((-1), e518) else some ((e518 77 8), e518)) (fun y => y.1 = (if 1000 ≤ vN A P N then -1 else vN A P N) ∧ AR 80 (aq A P N) y.2 ∧ AR 81 (bq A P (8 - N)) y.2 ∧ NT y.2 ∧ y.2 77 8 = vN A P N ∧ fr [77, 78, 79, 80, 81, 82] M y.2) := by
    intro M1 hN hC1 hf1
    refine ok_bind (x_s31 hA hPA N 120 pm_F 0 M1 (by omega) (by unfold pm_F; omega) hC1 hN (fun t ht => by omega)) ?_
    rintro ⟨y, M2⟩ ⟨r1, r2, r3, r4⟩
    dsimp only at r1 r2 r3 r4 ⊢
    subst r1
    have n2 : NT M2 := ⟨by rw [r4 78 (by decide)]; exact hN.1, by rw [r4 79 (by decide)]; exact hN.2⟩
    have c2 := CX_fr r4 (by decide) hC1
    refine ok_bind (x_s73 hA hP hPA hN8 N pm_F 0 M2 (by omega) (by unfold pm_F; omega) c2 n2 r2) ?_
    rintro ⟨y, M3⟩ ⟨s1, s2, s3⟩
    dsimp only at s1 s2 s3 ⊢
    subst s1
    have n3 : NT M3 := ⟨by rw [s3 78 (by decide)]; exact n2.1, by rw [s3 79 (by decide)]; exact n2.2⟩
    have c3 := CX_fr s3 (by decide) c2
    have := x_s104 hA hP hPA hN8 (8 - N) pm_F 8 M3 (by omega) (by omega) (by unfold pm_F; omega) c3 n3 (fun t ht => by rw [s3 81 (by decide)]; exact r3 t ht)
    rw [show ((8 : Nat) : Int) = 8 from rfl] at this
    refine ok_bind this (fun M4 h4 => ok_bd ?_)
    have f5 : fr [77] M4 (pm_ms M4 77 8 1000) := fr_ms (by decide)
    have a80 : AR 80 (aq A P N) (pm_ms M4 77 8 1000) := fun t ht => by rw [f5 80 (by decide), h4.2 80 (by decide)]; exact s2 t ht
    have a81 : AR 81 (bq A P (8 - N)) (pm_ms M4 77 8 1000) := fun t ht => by rw [f5 81 (by decide)]; exact h4.1 t ht
    refine ok_bind (x_s141 (bd_aq hP N) (bd_bq hP (8 - N)) 120 pm_F 0 _ (by omega) (by unfold pm_F; omega) a80 a81 (by rw [msc, aSn, if_pos rfl]; rfl)) ?_
    rintro M6 ⟨t1, t2, t3⟩
    have fz : fr [77, 78, 79, 80, 81, 82] M M6 := fr_tr (fr_tr (fr_tr (fr_tr (fr_tr hf1 r4 (S := [77, 78, 79, 80, 81, 82]) (by decide) (by decide)) s3 (S := [77, 78, 79, 80, 81, 82]) (by decide) (by decide)) h4.2 (S := [77, 78, 79, 80, 81, 82]) (by decide) (by decide)) f5 (S := [77, 78, 79, 80, 81, 82]) (by decide) (by decide)) t3 (by decide) (by decide)
    have e8 : M6 77 8 = vN A P N := t1
    have q80 : AR 80 (aq A P N) M6 := fun t ht => by rw [t3 80 (by decide)]; exact a80 t ht
    have q81 : AR 81 (bq A P (8 - N)) M6 := fun t ht => by rw [t3 81 (by decide)]; exact a81 t ht
    have n6 : NT M6 := ⟨by rw [t3 78 (by decide), f5 78 (by decide), h4.2 78 (by decide)]; exact n3.1, by rw [t3 79 (by decide), f5 79 (by decide), h4.2 79 (by decide)]; exact n3.2⟩
    rw [e8]
    refine ok_ite (fun g => ok_some ⟨?_, q80, q81, n6, e8, fz⟩) (fun g => ok_some ⟨?_, q80, q81, n6, e8, fz⟩)
    · rw [if_pos g]
    · rw [if_neg g]
  unfold f_Nights_search f_Told_plinths
  rw [hC.1.1.1, hPA]
  refine ok_be rfl (ok_pos (by omega) (ok_ite (fun h7 => ?_) (fun h7 => ?_)))
  · refine ok_bind (x_make M) (fun M1 h1 => ok_bd ?_)
    have f2 : fr [77] M1 (pm_ms M1 77 7 1) := fr_ms (by decide)
    have f12 : fr [77, 78, 79, 82] M (pm_ms M1 77 7 1) := fr_tr h1.2 f2 (by decide) (by decide)
    exact main _ ⟨by rw [f2 78 (by decide)]; exact h1.1.1, by rw [f2 79 (by decide)]; exact h1.1.2⟩ (CX_fr f12 (by decide) hC) f12
  · exact main M (hT.resolve_left h7) hC (fr_rf _ _)
end
