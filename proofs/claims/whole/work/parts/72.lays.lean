/-! NIGHTS: the reference's histories, night by night -/
section
variable {A : Nat → Int} {P : Nat}
/-- one night's row of costs -/
def rw1 (c : Nat) (A : Nat → Int) (P j : Nat) (B : Int) (f : Nat → Int) (M : pm_M) : Prop := (∀ s, inS P s → relB B (f s) (M c (7776 * j + phi (a_row A) s))) ∧ (∀ w, w < 7776 → (∀ s, inS P s → phi (a_row A) s ≠ w) → M c (7776 * j + w) = 100000) ∧ ∀ w, w < 7776 → 0 ≤ M c (7776 * j + w) ∧ M c (7776 * j + w) ≤ 100000
theorem rw1_eq {c : Nat} {j : Nat} {B : Int} {f : Nat → Int} {M M' : pm_M} (h : rw1 c A P j B f M) (e : ∀ w, w < 7776 → M' c (7776 * j + w) = M c (7776 * j + w)) : rw1 c A P j B f M' := ⟨fun s hs => by rw [e _ (phi_lt _ hs.1)]; exact h.1 s hs, fun w hw hn => by rw [e w hw]; exact h.2.1 w hw hn, fun w hw => by rw [e w hw]; exact h.2.2 w hw⟩
theorem q_h7 {st : Nat} (hst : st < 7776) : ∀ (t n q : Nat) (M : pm_M), q + t = 7776 → t < n → (∀ w, w < q → M 112 w = if w = st then 0 else 100000) → ok (f_Q_laysHistories_L7 n st q M) (fun M' => (∀ w, w < 7776 → M' 112 w = if w = st then 0 else 100000) ∧ fr [112] M M') := by
  intro t
  induction t with
  | zero =>
    intro n q M hq hn h
    cases n with
    | zero => omega
    | succ n =>
      unfold f_Q_laysHistories_L7
      exact ok_pos (by omega) (ok_some ⟨fun w hw => h w (by omega), fr_rf _ _⟩)
  | succ t ih =>
    intro n q M hq hn h
    cases n with
    | zero => omega
    | succ n =>
      have go : ∀ v, v = (if q = st then 0 else 100000) → ok (f_Q_laysHistories_L7 n st ((q : Int) + 1) (pm_ms M 112 q v)) (fun M' => (∀ w, w < 7776 → M' 112 w = if w = st then 0 else 100000) ∧ fr [112] M M') := by
        intro v hv
        refine ok_mono (ih n (q + 1) _ (by omega) (by omega) (fun w hw => ?_)) (fun M' h' => ⟨h'.1, fr_2 (fr_ms (by decide)) h'.2⟩)
        rw [msc, aSn]
        by_cases e : w = q
        · rw [if_pos e, hv, e]
        · rw [if_neg e]; exact h w (by omega)
      unfold f_Q_laysHistories_L7
      rw [tn_nat, i_ad_eq (by omega)]
      refine ok_neg (by omega) (ok_ite (fun e => ok_pos (by omega) (ok_bd (go 0 (by rw [if_pos (by omega)])))) (fun e => ok_pos (by omega) (ok_bd (go 100000 (by rw [if_neg (by omega)])))))
theorem q_h55 {j : Nat} (hj : 1 ≤ j ∧ j ≤ 8) (y2 : Int) : ∀ (t n q : Nat) (M : pm_M), q + t = 7776 → t < n → (∀ w, w < q → M 112 (7776 * j + w) = M 112 (7776 * (j - 1) + w)) → ok (f_Q_laysHistories_L55 n y2 ((7776 * j : Nat) : Int) q M) (fun z => ∃ M', z = (y2, ((7776 * j : Nat) : Int), M') ∧ (∀ w, w < 7776 → M' 112 (7776 * j + w) = M' 112 (7776 * (j - 1) + w)) ∧ (∀ i, i < 7776 * j ∨ 7776 * j + 7776 ≤ i → M' 112 i = M 112 i) ∧ fr [112] M M') := by
  intro t
  induction t with
  | zero =>
    intro n q M hq hn h
    cases n with
    | zero => omega
    | succ n =>
      unfold f_Q_laysHistories_L55
      exact ok_pos (by omega) (ok_some ⟨M, rfl, fun w hw => h w (by omega), fun _ _ => rfl, fr_rf _ _⟩)
  | succ t ih =>
    intro n q M hq hn h
    cases n with
    | zero => omega
    | succ n =>
      unfold f_Q_laysHistories_L55
      rw [i_sb_eq (by omega), i_ad_eq (a := ((7776 * j : Nat) : Int) - 7776) (by omega), i_ad_eq (a := ((7776 * j : Nat) : Int)) (by omega), i_ad_eq (a := (q : Int)) (by omega), show (((7776 * j : Nat) : Int) - 7776 + (q : Int)).toNat = 7776 * (j - 1) + q by omega, show (((7776 * j : Nat) : Int) + (q : Int)).toNat = 7776 * j + q by omega]
      refine ok_neg (by omega) (ok_pos (by omega) (ok_pos (by omega) (ok_bd ?_)))
      have f1 : fr [112] M (pm_ms M 112 (7776 * j + q) (M 112 (7776 * (j - 1) + q))) := fr_ms (by decide)
      refine ok_mono (ih n (q + 1) _ (by omega) (by omega) (fun w hw => ?_)) ?_
      · rw [msc, aSn, aSn, if_neg (show ¬ (7776 * (j - 1) + w = 7776 * j + q) by omega)]
        by_cases e : w = q
        · rw [if_pos (by omega), e]
        · rw [if_neg (by omega)]; exact h w (by omega)
      · rintro z ⟨M', z1, z2, z3, z4⟩
        exact ⟨M', z1, z2, fun i hi => by rw [z3 i hi, msc, aSn, if_neg (by omega)], fr_2 f1 z4⟩
theorem q_h103 {j : Nat} (hA : WF A) (hPA : A 0 = P) (hP : P ≤ 5) (hj : 1 ≤ j ∧ j ≤ 8) (M0 : pm_M) (hout : ∀ w, w < 7776 → (∀ s, inS P s → phi (a_row A) s ≠ w) → M0 112 (7776 * j + w) = 100000) (hb : ∀ w, w < 7776 → 0 ≤ M0 112 (7776 * j + w) ∧ M0 112 (7776 * j + w) ≤ 100000) : ∀ (t n q : Nat) (M : pm_M), q + t = 7776 → t < n → M 88 = A → STD A P M → (∀ w, q ≤ w → w < 7776 → M 112 (7776 * j + w) = M0 112 (7776 * j + w)) → (∀ w, w < q → (∀ s, inS P s → phi (a_row A) s = w → M 112 (7776 * j + w) = kpN (sB A (j : Int)) 100000 (fun s => M0 112 (7776 * j + phi (a_row A) s)) s) ∧ ((∀ s, inS P s → phi (a_row A) s ≠ w) → M 112 (7776 * j + w) = 100000)) →
    ok (f_Q_laysHistories_L103 n j ((7776 * j : Nat) : Int) q M) (fun z => ∃ M', z = ((j : Int), M') ∧ (∀ w, w < 7776 → (∀ s, inS P s → phi (a_row A) s = w → M' 112 (7776 * j + w) = kpN (sB A (j : Int)) 100000 (fun s => M0 112 (7776 * j + phi (a_row A) s)) s) ∧ ((∀ s, inS P s → phi (a_row A) s ≠ w) → M' 112 (7776 * j + w) = 100000)) ∧ (∀ i, i < 7776 * j ∨ 7776 * j + 7776 ≤ i → M' 112 i = M 112 i) ∧ fr [112] M M') := by
  intro t
  induction t with
  | zero =>
    intro n q M hq hn hM hS h1 h2
    cases n with
    | zero => omega
    | succ n =>
      unfold f_Q_laysHistories_L103
      exact ok_pos (by omega) (ok_some ⟨M, rfl, fun w hw => h2 w (by omega), fun _ _ => rfl, fr_rf _ _⟩)
  | succ t ih =>
    intro n q M hq hn hM hS h1 h2
    cases n with
    | zero => omega
    | succ n =>
      have hv := hb q (by omega)
      have e1 := h1 q (by omega) (by omega)
      have go : ∀ v, (∀ s, inS P s → phi (a_row A) s = q → v = kpN (sB A (j : Int)) 100000 (fun s => M0 112 (7776 * j + phi (a_row A) s)) s) → ((∀ s, inS P s → phi (a_row A) s ≠ q) → v = 100000) → ok (f_Q_laysHistories_L103 n j ((7776 * j : Nat) : Int) ((q : Int) + 1) (pm_ms M 112 (7776 * j + q) v)) (fun z => ∃ M', z = ((j : Int), M') ∧ (∀ w, w < 7776 → (∀ s, inS P s → phi (a_row A) s = w → M' 112 (7776 * j + w) = kpN (sB A (j : Int)) 100000 (fun s => M0 112 (7776 * j + phi (a_row A) s)) s) ∧ ((∀ s, inS P s → phi (a_row A) s ≠ w) → M' 112 (7776 * j + w) = 100000)) ∧ (∀ i, i < 7776 * j ∨ 7776 * j + 7776 ≤ i → M' 112 i = M 112 i) ∧ fr [112] M M') := by
        intro v g1 g2
        have f1 : fr [112] M (pm_ms M 112 (7776 * j + q) v) := fr_ms (by decide)
        refine ok_mono (ih n (q + 1) _ (by omega) (by omega) (by rw [f1 88 (by decide)]; exact hM) (fun q' hq' hr => by rw [f1 114 (by decide)]; exact hS q' hq' hr) (fun w k1 k2 => by rw [msc, aSn, if_neg (by omega)]; exact h1 w (by omega) k2) (fun w hw => ?_)) ?_
        · rw [msc, aSn]
          by_cases e : w = q
          · rw [if_pos (by omega), e]; exact ⟨g1, g2⟩
          · rw [if_neg (by omega)]; exact h2 w (by omega)
        · rintro z ⟨M', z1, z2, z3, z4⟩
          exact ⟨M', z1, z2, fun i hi => by rw [z3 i hi, msc, aSn, if_neg (by omega)], fr_2 f1 z4⟩
      unfold f_Q_laysHistories_L103
      rw [i_ad_eq (a := ((7776 * j : Nat) : Int)) (by omega), i_ad_eq (a := (q : Int)) (by omega), show (((7776 * j : Nat) : Int) + (q : Int)).toNat = 7776 * j + q by omega, e1]
      refine ok_neg (by omega) (ok_pos (by omega) (ok_ite (fun g => ok_pos (by omega) (ok_bd (go 100000 (fun s hs he => ?_) (fun _ => rfl)))) (fun g => ?_)))
      · show (100000 : Int) = if sB A (j : Int) s then M0 112 (7776 * j + phi (a_row A) s) else 100000
        rw [he]
        split <;> omega
      · have hex : ∃ s, inS P s ∧ phi (a_row A) s = q := by
          apply Classical.byContradiction
          intro hne
          have := hout q (by omega) (fun s hs h => hne ⟨s, hs, h⟩)
          omega
        obtain ⟨s, hs, hq2⟩ := hex
        have hso := q_isSo hA hPA hP hM hS hs (j : Int)
        rw [hq2] at hso
        have same : ∀ s', inS P s' → phi (a_row A) s' = q → sB A (j : Int) s' = sB A (j : Int) s := by
          intro s' hs' he'
          have h' := q_isSo hA hPA hP hM hS hs' (j : Int)
          rw [he', hso] at h'
          have := Option.some.inj h'
          revert this
          cases sB A (j : Int) s' <;> cases sB A (j : Int) s <;> simp
        refine ok_be hso ?_
        cases hsb : sB A (j : Int) s
        · refine ok_pos (by decide) (ok_pos (by omega) (ok_bd (go 100000 (fun s' hs' he' => ?_) (fun _ => rfl))))
          unfold kpN
          rw [same s' hs' he', hsb]; rfl
        · refine ok_neg (by decide) (ok_pos (by omega) (ok_pos (by omega) (ok_bd (go _ (fun s' hs' he' => ?_) (fun hne => absurd hq2 (hne s hs))))))
          unfold kpN
          rw [same s' hs' he', hsb, if_pos rfl]
          show M0 112 (7776 * j + q) = M0 112 (7776 * j + phi (a_row A) s')
          rw [he']
theorem rw1_sp {c : Nat} {j : Nat} {B : Int} {f g : Nat → Int} {M : pm_M} (h : ∀ s, inS P s → relB B (f s) (g s)) (e : ∀ s, inS P s → M c (7776 * j + phi (a_row A) s) = g s) (h2 : ∀ w, w < 7776 → (∀ s, inS P s → phi (a_row A) s ≠ w) → M c (7776 * j + w) = 100000) (h3 : ∀ w, w < 7776 → 0 ≤ M c (7776 * j + w) ∧ M c (7776 * j + w) ≤ 100000) : rw1 c A P j B f M := ⟨fun s hs => by rw [e s hs]; exact h s hs, h2, h3⟩
theorem q_h40 (hA : WF A) (hPA : A 0 = P) (hP : P ≤ 5) : ∀ (t n j : Nat) (M : pm_M), j + t = 9 → 1 ≤ j → t < n → M 88 = A → STD A P M → (∀ i, i < j → rw1 112 A P i (4 * i) (aq A P i) M) → ok (f_Q_laysHistories_L40 n j M) (fun M' => (∀ i, i < 9 → rw1 112 A P i (4 * i) (aq A P i) M') ∧ STD A P M' ∧ fr [112] M M') := by
  intro t
  induction t with
  | zero =>
    intro n j M hj h1 hn hM hS h
    cases n with
    | zero => omega
    | succ n =>
      unfold f_Q_laysHistories_L40
      exact ok_pos (by omega) (ok_some ⟨fun i hi => h i (by omega), hS, fr_rf _ _⟩)
  | succ t ih =>
    intro n j M hj h1 hn hM hS h
    cases n with
    | zero => omega
    | succ n =>
      unfold f_Q_laysHistories_L40
      rw [i_ml_eq (by omega), show (7776 : Int) * (j : Int) = ((7776 * j : Nat) : Int) by omega]
      refine ok_neg (by omega) (ok_bind (q_h55 (j := j) (by omega) j 7776 pm_F 0 M (by omega) (by unfold pm_F; omega) (fun w hw => by omega)) ?_)
      rintro _ ⟨M1, rfl, a2, a3, a4⟩
      dsimp only
      have hprev := h (j - 1) (by omega)
      have p1 : rw1 112 A P (j - 1) (4 * ((j - 1 : Nat) : Int)) (aq A P (j - 1)) M1 := rw1_eq hprev (fun w hw => a3 _ (by omega))
      have m1 : M1 88 = A := by rw [a4 88 (by decide)]; exact hM
      refine ok_bind (q_spr112 (o := 7776 * j) hP (by omega) hPA m1 (fun w hw hne => by rw [a2 w hw]; exact p1.2.1 w hw hne) (fun w hw => by rw [a2 w hw]; exact p1.2.2 w hw)) (fun M2 h2 => ?_)
      obtain ⟨b1, b2, b3, b4, b5⟩ := h2
      have s2 : STD A P M2 := fun q hq hr => by rw [b5 114 (by decide), a4 114 (by decide)]; exact hS q hq hr
      refine ok_bind (q_h103 (j := j) hA hPA hP (by omega) M2 b2 b3 7776 pm_F 0 M2 (by omega) (by unfold pm_F; omega) (by rw [b5 88 (by decide)]; exact m1) s2 (fun _ _ _ => rfl) (fun w hw => by omega)) ?_
      rintro _ ⟨M3, rfl, c2, c3, c4⟩
      dsimp only
      rw [i_ad_eq (by omega)]
      have f3 : fr [112] M M3 := fr_2 (fr_2 a4 b5) c4
      refine ok_mono (ih n (j + 1) M3 (by omega) (by omega) (by omega) (by rw [f3 88 (by decide)]; exact hM) (fun q hq hr => by rw [f3 114 (by decide)]; exact hS q hq hr) (fun i hi => ?_)) (fun M' h' => ⟨h'.1, h'.2.1, fr_2 f3 h'.2.2⟩)
      by_cases e : i = j
      · subst e
        have hrel : ∀ s, inS P s → relB (4 * ((i - 1 : Nat) : Int)) (aq A P (i - 1) s) (M1 112 (7776 * i + phi (a_row A) s)) := fun s hs => by rw [a2 _ (phi_lt _ hs.1)]; exact p1.1 s hs
        have hspr := rel_spr hP (B := 4 * ((i - 1 : Nat) : Int)) (by omega) hrel
        have hkp := rel_kp (so := sB A (i : Int)) hspr
        refine rw1_sp (g := kpN (sB A (i : Int)) 100000 (fun s => M2 112 (7776 * i + phi (a_row A) s))) (fun s hs => ?_) (fun s hs => (c2 _ (phi_lt _ hs.1)).1 s hs rfl) (fun w hw hne => (c2 w hw).2 hne) (fun w hw => ?_)
        · have e1 : aq A P i s = kpN (sB A (i : Int)) 1000 (spr P (aq A P (i - 1))) s := by
            obtain ⟨i', rfl⟩ : ∃ i', i = i' + 1 := ⟨i - 1, by omega⟩
            rw [Nat.add_sub_cancel]; rfl
          have e2 : kpN (sB A (i : Int)) 100000 (fun s => M2 112 (7776 * i + phi (a_row A) s)) s = kpN (sB A (i : Int)) 100000 (spr P (fun s => M1 112 (7776 * i + phi (a_row A) s))) s := by
            have eb : (fun s => M2 112 (7776 * i + phi (a_row A) s)) s = spr P (fun s => M1 112 (7776 * i + phi (a_row A) s)) s := b1 s hs
            unfold kpN
            rw [eb]
          rw [e1, e2, show (4 : Int) * (i : Int) = 4 * ((i - 1 : Nat) : Int) + 4 by omega]
          exact hkp s hs
        · by_cases hex : ∃ s, inS P s ∧ phi (a_row A) s = w
          · obtain ⟨s, hs, rfl⟩ := hex
            rw [(c2 _ hw).1 s hs rfl]
            have := b3 _ hw
            unfold kpN
            split
            · exact this
            · omega
          · rw [(c2 w hw).2 (fun s hs he => hex ⟨s, hs, he⟩)]; omega
      · refine rw1_eq (h i (by omega)) (fun w hw => ?_)
        rw [c3 _ (by omega), b4 _ (by omega), a3 _ (by omega)]
def qmn (f : Nat → Int) : Nat → Int
  | 0 => 100000
  | k + 1 => if f k < qmn f k then f k else qmn f k
theorem qmn_le {f : Nat → Int} {m : Int} (hm : m < 100000) : ∀ k, qmn f k ≤ m ↔ ∃ w, w < k ∧ f w ≤ m
  | 0 => by rw [qmn]; exact ⟨fun h => by omega, fun ⟨s, h, _⟩ => by omega⟩
  | k + 1 => by
    rw [qmn]
    have ih := qmn_le (f := f) hm k
    constructor
    · intro h
      by_cases h1 : f k ≤ m
      · exact ⟨k, by omega, h1⟩
      · have : qmn f k ≤ m := by split at h <;> omega
        obtain ⟨s, h2, h3⟩ := ih.mp this
        exact ⟨s, by omega, h3⟩
    · rintro ⟨s, h1, h2⟩
      by_cases e : s = k
      · rw [e] at h2; split <;> omega
      · have := ih.mpr ⟨s, by omega, h2⟩
        split <;> omega
theorem qmn_K (f : Nat → Int) : ∀ k, qmn f k ≤ 100000
  | 0 => by rw [qmn]; omega
  | k + 1 => by have := qmn_K f k; rw [qmn]; split <;> omega
theorem q_h190 {M : pm_M} : ∀ (t n q : Nat), q + t = 7776 → t < n → f_Q_laysHistories_L190 M n (qmn (fun w => M 112 (62208 + w)) q) q = some (qmn (fun w => M 112 (62208 + w)) 7776) := by
  intro t
  induction t with
  | zero =>
    intro n q hq hn
    cases n with
    | zero => omega
    | succ n =>
      unfold f_Q_laysHistories_L190
      rw [if_pos (by omega), show q = 7776 by omega]
  | succ t ih =>
    intro n q hq hn
    cases n with
    | zero => omega
    | succ n =>
      have := ih n (q + 1) (by omega) (by omega)
      unfold f_Q_laysHistories_L190
      rw [if_neg (by omega), i_ad_eq (a := 62208) (by omega), i_ad_eq (a := (q : Int)) (by omega), if_pos (by omega), show ((62208 : Int) + (q : Int)).toNat = 62208 + q by omega]
      dsimp only [pm_bd]
      rw [qmn, show ((q + 1 : Nat) : Int) = (q : Int) + 1 by omega] at this
      by_cases e : M 112 (62208 + q) < qmn (fun w => M 112 (62208 + w)) q
      · rw [if_neg (by omega)]; rw [if_pos e] at this; exact this
      · rw [if_pos (by omega)]; rw [if_neg e] at this; exact this
theorem aq_out (hP : P ≤ 5) : ∀ n s, s < 120 → ¬ inS P s → aq A P n s = 1000
  | 0, s, hs, hn => by rw [aq_0, lkn_out hs hn]; rfl
  | n + 1, s, hs, hn => by
    have h1 : spr P (aq A P n) s = 1000 := by
      obtain ⟨l1, u1, r1⟩ := spr_ok hP (aq A P n)
      obtain ⟨t, m, a1, a2, a3⟩ := r1 s hs
      have ht := (cn_lip hP l1 m s t hs a2).1
      have hnt : ¬ inS P t := by
        intro hin
        apply hn
        have rev : ∀ (m s t : Nat), s < 120 → cn P m s t → inS P t → inS P s := by
          intro m
          induction m with
          | zero => intro s t _ h hi; have h : s = t := h; rw [h]; exact hi
          | succ m ih =>
            rintro s t hs ⟨a, b, ha, hb, h⟩ hi
            obtain ⟨w1, _, w3⟩ := w_T hs (show b < 5 by omega) ha
            have := inS_T hP (ih _ t w1 h hi) hb ha
            rw [w3] at this
            exact this
        exact rev m s t hs a2 hin
      have := aq_out hP n t ht hnt
      have := u1 s hs
      have := bd_aq (A := A) hP n s hs
      omega
    show kpN _ 1000 (spr P (aq A P n)) s = 1000
    unfold kpN
    rw [h1]; split <;> rfl
/-- the reference's least is the class's -/
theorem q_lays {M : pm_M} (hA : WF A) (hPA : A 0 = P) (hP : P ≤ 5) (hM : M 88 = A) : ok (f_Q_laysHistories M) (fun y => y.1 = (if 1000 ≤ vN A P 8 then -1 else vN A P 8) ∧ (∀ i, i < 9 → rw1 112 A P i (4 * i) (aq A P i) y.2) ∧ STD A P y.2 ∧ (∀ j, j ≠ 44 → y.2 87 j = M 87 j) ∧ fr [87, 112, 114] M y.2) := by
  unfold f_Q_laysHistories
  refine ok_bind (q_way hA hP hPA hM) ?_
  rintro ⟨st, M1⟩ ⟨h1, h2, h3, h4⟩
  dsimp only at h1 h2 h3 h4 ⊢
  subst h1
  have hst := phi_lt (a_row A) (show 119 < 120 by omega)
  refine ok_bind (q_h7 hst 7776 pm_F 0 M1 (by omega) (by unfold pm_F; omega) (fun w hw => by omega)) (fun M2 k2 => ?_)
  have e88 : M2 88 = A := by rw [k2.2 88 (by decide), h4 88 (by decide)]; exact hM
  have s2 : STD A P M2 := fun q hq hr => by rw [k2.2 114 (by decide)]; exact h2 q hq hr
  have r0 : rw1 112 A P 0 (4 * ((0 : Nat) : Int)) (aq A P 0) M2 := by
    refine ⟨fun s hs => ?_, fun w hw hne => ?_, fun w hw => ?_⟩
    · rw [Nat.mul_zero, Nat.zero_add, k2.1 _ (phi_lt _ hs.1), aq_0]
      by_cases e : phi (a_row A) s = phi (a_row A) 119
      · rw [if_pos e, if_pos ((lkn_phi hA hPA hP hs).mpr e)]
        exact Or.inl ⟨by omega, by omega, rfl⟩
      · rw [if_neg e, if_neg (fun z => e ((lkn_phi hA hPA hP hs).mp z))]
        exact Or.inr ⟨rfl, rfl⟩
    · rw [Nat.mul_zero, Nat.zero_add, k2.1 w hw, if_neg (fun z => hne 119 (inS_0 P) z.symm)]
    · rw [Nat.mul_zero, Nat.zero_add, k2.1 w hw]
      split <;> omega
  have := q_h40 hA hPA hP 8 pm_F 1 M2 (by omega) (by omega) (by unfold pm_F; omega) e88 s2 (fun i hi => by rw [show i = 0 by omega]; exact r0)
  rw [show ((1 : Nat) : Int) = 1 from rfl] at this
  refine ok_bind this (fun M3 k3 => ?_)
  obtain ⟨g1, g2, g3⟩ := k3
  have e190 := q_h190 (M := M3) 7776 pm_F 0 (by omega) (by unfold pm_F; omega)
  rw [show qmn (fun w => M3 112 (62208 + w)) 0 = 100000 from rfl, show ((0 : Nat) : Int) = 0 from rfl] at e190
  refine ok_be e190 ?_
  have f13 : fr [87, 112, 114] M M3 := fr_tr (fr_tr h4 k2.2 (S := [87, 112, 114]) (by decide) (by decide)) g3 (by decide) (by decide)
  have j13 : ∀ j, j ≠ 44 → M3 87 j = M 87 j := fun j hj => by rw [g3 87 (by decide), k2.2 87 (by decide)]; exact h3 j hj
  have r8 := g1 8 (by omega)
  -- the two leasts
  have eqv : ∀ m : Int, m < 1000 → (qmn (fun w => M3 112 (62208 + w)) 7776 ≤ m ↔ vN A P 8 ≤ m) := by
    intro m hm
    unfold vN
    rw [qmn_le (by omega), mns_le hm]
    constructor
    · rintro ⟨w, hw, hle⟩
      have hex : ∃ s, inS P s ∧ phi (a_row A) s = w := by
        apply Classical.byContradiction
        intro hne
        have e := r8.2.1 w hw (fun s hs he => hne ⟨s, hs, he⟩)
        have hle' : M3 112 (62208 + w) ≤ m := hle
        rw [show 7776 * 8 + w = 62208 + w by omega] at e
        omega
      obtain ⟨s, hs, rfl⟩ := hex
      refine ⟨s, hs.1, ?_⟩
      have e := r8.1 s hs
      have hle' : M3 112 (62208 + phi (a_row A) s) ≤ m := hle
      rw [show 7776 * 8 + phi (a_row A) s = 62208 + phi (a_row A) s by omega] at e
      show aq A P 8 s + 0 ≤ m
      unfold relB at e
      omega
    · rintro ⟨s, hs, hle⟩
      have hle' : aq A P 8 s + 0 ≤ m := hle
      by_cases hin : inS P s
      · refine ⟨phi (a_row A) s, phi_lt _ hs, ?_⟩
        have e := r8.1 s hin
        rw [show 7776 * 8 + phi (a_row A) s = 62208 + phi (a_row A) s by omega] at e
        show M3 112 (62208 + phi (a_row A) s) ≤ m
        unfold relB at e
        omega
      · have := aq_out (A := A) hP 8 s hs hin
        omega
  have hq2 : qmn (fun w => M3 112 (62208 + w)) 7776 < 100000 → qmn (fun w => M3 112 (62208 + w)) 7776 ≤ 32 := by
    intro hlt
    obtain ⟨w, hw, hle⟩ := (qmn_le hlt 7776).mp (Int.le_refl _)
    have hle' : M3 112 (62208 + w) ≤ qmn (fun w => M3 112 (62208 + w)) 7776 := hle
    have hex : ∃ s, inS P s ∧ phi (a_row A) s = w := by
      apply Classical.byContradiction
      intro hne
      have e := r8.2.1 w hw (fun s hs he => hne ⟨s, hs, he⟩)
      rw [show 7776 * 8 + w = 62208 + w by omega] at e
      omega
    obtain ⟨s, hs, rfl⟩ := hex
    have e := r8.1 s hs
    rw [show 7776 * 8 + phi (a_row A) s = 62208 + phi (a_row A) s by omega] at e
    apply (qmn_le (by omega) 7776).mpr
    refine ⟨phi (a_row A) s, phi_lt _ hs.1, ?_⟩
    show M3 112 (62208 + phi (a_row A) s) ≤ 32
    unfold relB at e
    omega
  have hK := qmn_K (fun w => M3 112 (62208 + w)) 7776
  generalize qmn (fun w => M3 112 (62208 + w)) 7776 = v at *
  refine ok_ite (fun e => ok_some ⟨?_, g1, g2, j13, f13⟩) (fun e => ok_some ⟨?_, g1, g2, j13, f13⟩)
  · show (-1 : Int) = _
    rw [if_pos]
    apply Classical.byContradiction
    intro hc
    have := (eqv (vN A P 8) (by omega)).mpr (Int.le_refl _)
    omega
  · show v = _
    have h32 := hq2 (by omega)
    have h1 := (eqv v (by omega)).mp (Int.le_refl _)
    have h2 := (eqv (vN A P 8) (by omega)).mpr (Int.le_refl _)
    rw [if_neg (by omega)]
    omega
end
