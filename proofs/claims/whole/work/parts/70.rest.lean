/-! NIGHTS: the reference lets changes happen: rest -/
section
variable {A : Nat → Int} {P o : Nat} {F : Nat → Int}
/-- a row of costs in the midst of its spreading -/
def IN113 (P o : Nat) (r : Nat → Int) (F : Nat → Int) (M : pm_M) : Prop := (∀ w, w < 7776 → (∀ s, inS P s → phi r s ≠ w) → M 113 (o + w) = 100000) ∧ (∀ s, inS P s → F s ≤ M 113 (o + phi r s)) ∧ ∀ w, w < 7776 → 0 ≤ M 113 (o + w) ∧ M 113 (o + w) ≤ 100000
def DE113 (o : Nat) (M M' : pm_M) : Prop := (∀ i, M' 113 i ≤ M 113 i) ∧ (∀ i, i < o ∨ o + 7776 ≤ i → M' 113 i = M 113 i) ∧ fr [113] M M'
theorem DE_rf113 (M : pm_M) : DE113 o M M := ⟨fun _ => Int.le_refl _, fun _ _ => rfl, fr_rf _ _⟩
theorem DE_tr113 {M M1 M2 : pm_M} (h1 : DE113 o M M1) (h2 : DE113 o M1 M2) : DE113 o M M2 := ⟨fun i => Int.le_trans (h2.1 i) (h1.1 i), fun i hi => (h2.2.1 i hi).trans (h1.2.1 i hi), fr_2 h1.2.2 h2.2.2⟩
theorem q_54113 (hP : P ≤ 5) (ho : o + 7776 ≤ 69984) (hPA : A 0 = P) (hF : lipB P F) (hF0 : ∀ s, inS P s → 0 ≤ F s) (hff : fac (a_row A) F) (y3 : Int) {s a : Nat} {c : Int} (hs : inS P s) (hc : F s ≤ c ∧ c < 100000) (ha : a < P) : ∀ (t n b : Nat) (M : pm_M), (b + t = P ∨ (t = 0 ∧ P ≤ b)) → a < b → b ≤ 6 → t < n → M 88 = A → IN113 P o (a_row A) F M →
    ok (f_Q_spreads_87_113_L54 n o y3 (phi (a_row A) s) c a b M) (fun z => ∃ M', z = ((o : Int), y3, (phi (a_row A) s : Int), c, (a : Int), M') ∧ DE113 o M M' ∧ IN113 P o (a_row A) F M' ∧ ∀ b', b ≤ b' → b' < P → M' 113 (o + phi (a_row A) (tT a b' s)) ≤ c + 1) := by
  have hc0 := hF0 s hs
  intro t
  induction t with
  | zero =>
    intro n b M hb hab hb6 hn hM hI
    cases n with
    | zero => omega
    | succ n =>
      unfold f_Q_spreads_87_113_L54
      exact ok_pos (by rw [hM]; omega) (ok_some ⟨M, rfl, DE_rf113 M, hI, fun b' h1 h2 => by omega⟩)
  | succ t ih =>
    intro n b M hb hab hb6 hn hM hI
    cases n with
    | zero => omega
    | succ n =>
      have iT := inS_T hP hs (show b < P by omega) hab
      have hl := phi_lt (a_row A) iT.1
      have hlip := hF s hs.1 b (by omega) a hab
      have hv := hI.2.2 _ hl
      unfold f_Q_spreads_87_113_L54
      rw [hM]
      refine ok_neg (by omega) (ok_be (q_chg hs.1 (by omega) hab M) ?_)
      rw [i_ad_eq (a := (o : Int)) (by omega), i_ad_eq (a := c) (by omega), i_ad_eq (a := (b : Int)) (by omega), show ((o : Int) + (phi (a_row A) (tT a b s) : Int)).toNat = o + phi (a_row A) (tT a b s) by omega]
      have go : ∀ v, v ≤ M 113 (o + phi (a_row A) (tT a b s)) → v ≤ c + 1 → F (tT a b s) ≤ v → 0 ≤ v → ok (f_Q_spreads_87_113_L54 n o y3 (phi (a_row A) s) c a ((b : Int) + 1) (pm_ms M 113 (o + phi (a_row A) (tT a b s)) v)) (fun z => ∃ M', z = ((o : Int), y3, (phi (a_row A) s : Int), c, (a : Int), M') ∧ DE113 o M M' ∧ IN113 P o (a_row A) F M' ∧ ∀ b', b ≤ b' → b' < P → M' 113 (o + phi (a_row A) (tT a b' s)) ≤ c + 1) := by
        intro v h1 h2 h3 h4
        have f1 : fr [113] M (pm_ms M 113 (o + phi (a_row A) (tT a b s)) v) := fr_ms (by decide)
        have e : ∀ i, (pm_ms M 113 (o + phi (a_row A) (tT a b s)) v) 113 i = if i = o + phi (a_row A) (tT a b s) then v else M 113 i := fun i => by rw [msc, aSn]
        have hD : DE113 o M (pm_ms M 113 (o + phi (a_row A) (tT a b s)) v) := by
          refine ⟨fun i => ?_, fun i hi => ?_, f1⟩
          · rw [e i]
            by_cases g : i = o + phi (a_row A) (tT a b s)
            · rw [if_pos g, g]; exact h1
            · rw [if_neg g]; exact Int.le_refl _
          · rw [e i, if_neg (by omega)]
        refine ok_mono (ih n (b + 1) _ (by omega) (by omega) (by omega) (by omega) (by rw [f1 88 (by decide)]; exact hM) ⟨fun w hw hn => ?_, fun s' hs' => ?_, fun w hw => ?_⟩) ?_
        · rw [e, if_neg (fun z => hn _ iT (by omega))]
          exact hI.1 w hw hn
        · rw [e]
          by_cases g : o + phi (a_row A) s' = o + phi (a_row A) (tT a b s)
          · rw [if_pos g]
            rw [hff s' _ hs'.1 iT.1 (by omega)]; exact h3
          · rw [if_neg g]; exact hI.2.1 s' hs'
        · rw [e]
          have := hI.2.2 w hw
          split
          · omega
          · exact this
        · rintro z ⟨M', z1, z2, z3, z4⟩
          refine ⟨M', z1, DE_tr113 hD z2, z3, fun b' g1 g2 => ?_⟩
          by_cases g : b' = b
          · rw [g]
            have := z2.1 (o + phi (a_row A) (tT a b s))
            rw [e, if_pos rfl] at this
            omega
          · exact z4 b' (by omega) g2
      have hFT := hI.2.1 _ iT
      refine ok_pos (by omega) (ok_ite (fun g => ok_pos (by omega) (ok_pos (by omega) (ok_bd (go _ (Int.le_refl _) g hFT hv.1)))) (fun g => ok_pos (by omega) (ok_bd (go _ (by omega) (Int.le_refl _) (by omega) (by omega)))))
theorem q_29113 (hP : P ≤ 5) (ho : o + 7776 ≤ 69984) (hPA : A 0 = P) (hF : lipB P F) (hF0 : ∀ s, inS P s → 0 ≤ F s) (hff : fac (a_row A) F) (y3 : Int) {s : Nat} {c : Int} (hs : inS P s) (hc : F s ≤ c ∧ c < 100000) : ∀ (t n a : Nat) (M : pm_M), a + t = P → t < n → M 88 = A → IN113 P o (a_row A) F M →
    ok (f_Q_spreads_87_113_L29 n o y3 (phi (a_row A) s) c a M) (fun z => ∃ M', z = ((o : Int), y3, (phi (a_row A) s : Int), M') ∧ DE113 o M M' ∧ IN113 P o (a_row A) F M' ∧ ∀ a' b', a ≤ a' → a' < b' → b' < P → M' 113 (o + phi (a_row A) (tT a' b' s)) ≤ c + 1) := by
  intro t
  induction t with
  | zero =>
    intro n a M ha hn hM hI
    cases n with
    | zero => omega
    | succ n =>
      unfold f_Q_spreads_87_113_L29
      exact ok_pos (by rw [hM]; omega) (ok_some ⟨M, rfl, DE_rf113 M, hI, fun a' b' h1 h2 h3 => by omega⟩)
  | succ t ih =>
    intro n a M ha hn hM hI
    cases n with
    | zero => omega
    | succ n =>
      unfold f_Q_spreads_87_113_L29
      rw [hM, i_ad_eq (a := (a : Int)) (by omega)]
      have := q_54113 hP ho hPA hF hF0 hff y3 hs hc (show a < P by omega) (P - (a + 1)) pm_F (a + 1) M (by omega) (by omega) (by omega) (by unfold pm_F; omega) hM hI
      rw [show ((a + 1 : Nat) : Int) = (a : Int) + 1 by omega] at this
      refine ok_neg (by omega) (ok_neg (by omega) (ok_bind this ?_))
      rintro _ ⟨M1, rfl, z2, z3, z4⟩
      dsimp only
      rw [i_ad_eq (by omega)]
      refine ok_mono (ih n (a + 1) M1 (by omega) (by omega) (by rw [z2.2.2 88 (by decide)]; exact hM) z3) ?_
      rintro z ⟨M', y1, y2, y3', y4⟩
      refine ⟨M', y1, DE_tr113 z2 y2, y3', fun a' b' h1 h2 h3 => ?_⟩
      by_cases e : a' = a
      · rw [e]
        have g1 := y2.1 (o + phi (a_row A) (tT a b' s))
        have g2 := z4 b' (by omega) h3
        omega
      · exact y4 a' b' (by omega) h2 h3
theorem q_10113 (hP : P ≤ 5) (ho : o + 7776 ≤ 69984) (hPA : A 0 = P) (hF : lipB P F) (hF0 : ∀ s, inS P s → 0 ≤ F s) (hff : fac (a_row A) F) (y3 : Int) : ∀ (t n q : Nat) (M : pm_M), q + t = 7776 → t < n → M 88 = A → IN113 P o (a_row A) F M →
    ok (f_Q_spreads_87_113_L10 n o y3 q M) (fun z => ∃ M', z = ((o : Int), y3, M') ∧ DE113 o M M' ∧ IN113 P o (a_row A) F M' ∧ ∀ s, inS P s → q ≤ phi (a_row A) s → M 113 (o + phi (a_row A) s) < 100000 → ∀ a b, a < b → b < P → M' 113 (o + phi (a_row A) (tT a b s)) ≤ M 113 (o + phi (a_row A) s) + 1) := by
  intro t
  induction t with
  | zero =>
    intro n q M hq hn hM hI
    cases n with
    | zero => omega
    | succ n =>
      unfold f_Q_spreads_87_113_L10
      exact ok_pos (by omega) (ok_some ⟨M, rfl, DE_rf113 M, hI, fun s hs h1 => by have := phi_lt (a_row A) hs.1; omega⟩)
  | succ t ih =>
    intro n q M hq hn hM hI
    cases n with
    | zero => omega
    | succ n =>
      unfold f_Q_spreads_87_113_L10
      rw [i_ad_eq (a := (o : Int)) (by omega), show ((o : Int) + (q : Int)).toNat = o + q by omega]
      refine ok_neg (by omega) (ok_pos (by omega) (ok_bd ?_))
      have next : ∀ (M1 : pm_M), DE113 o M M1 → IN113 P o (a_row A) F M1 → (∀ s, inS P s → phi (a_row A) s = q → M 113 (o + q) < 100000 → ∀ a b, a < b → b < P → M1 113 (o + phi (a_row A) (tT a b s)) ≤ M 113 (o + q) + 1) → ok (f_Q_spreads_87_113_L10 n o y3 ((q : Int) + 1) M1) (fun z => ∃ M', z = ((o : Int), y3, M') ∧ DE113 o M M' ∧ IN113 P o (a_row A) F M' ∧ ∀ s, inS P s → q ≤ phi (a_row A) s → M 113 (o + phi (a_row A) s) < 100000 → ∀ a b, a < b → b < P → M' 113 (o + phi (a_row A) (tT a b s)) ≤ M 113 (o + phi (a_row A) s) + 1) := by
        intro M1 d1 i1 h1
        refine ok_mono (ih n (q + 1) M1 (by omega) (by omega) (by rw [d1.2.2 88 (by decide)]; exact hM) i1) ?_
        rintro z ⟨M', y1, y2, y3', y4⟩
        refine ⟨M', y1, DE_tr113 d1 y2, y3', fun s hs g1 g2 a b ha hb => ?_⟩
        by_cases e : phi (a_row A) s = q
        · have k1 := y2.1 (o + phi (a_row A) (tT a b s))
          rw [e] at g2 ⊢
          have k2 := h1 s hs e g2 a b ha hb
          omega
        · have k1 := d1.1 (o + phi (a_row A) s)
          have k2 := y4 s hs (by omega) (by omega) a b ha hb
          omega
      by_cases hv : M 113 (o + q) < 100000
      · have hex : ∃ s, inS P s ∧ phi (a_row A) s = q := by
          apply Classical.byContradiction
          intro hne
          have := hI.1 q (by omega) (fun s hs h => hne ⟨s, hs, h⟩)
          omega
        obtain ⟨s, hs, hq2⟩ := hex
        have hlow := hI.2.1 s hs
        rw [hq2] at hlow
        have := q_29113 hP ho hPA hF hF0 hff y3 hs (c := M 113 (o + q)) ⟨hlow, hv⟩ P pm_F 0 M (by omega) (by unfold pm_F; omega) hM hI
        rw [hq2, show ((0 : Nat) : Int) = 0 from rfl] at this
        refine ok_bind this ?_
        rintro _ ⟨M1, rfl, z2, z3, z4⟩
        dsimp only
        rw [i_ad_eq (by omega)]
        refine next M1 z2 z3 (fun s' hs' he _ a b ha hb => ?_)
        rw [phi_c hs'.1 hs.1 (show b < 5 by omega) ha (by omega)]
        exact z4 a b (by omega) ha hb
      · have e29 : f_Q_spreads_87_113_L29 pm_F o y3 q (M 113 (o + q)) 0 M = some ((o : Int), y3, (q : Int), M) := by
          unfold pm_F f_Q_spreads_87_113_L29
          by_cases h0 : M 88 0 ≤ 0
          · rw [if_pos h0]
          · rw [if_neg h0, if_pos (by omega)]
        refine ok_be e29 ?_
        dsimp only
        rw [i_ad_eq (by omega)]
        exact next M (DE_rf113 M) hI (fun s' _ _ h => absurd h hv)
theorem q_2113 (hP : P ≤ 5) (ho : o + 7776 ≤ 69984) (hPA : A 0 = P) (hF : lipB P F) (hF0 : ∀ s, inS P s → 0 ≤ F s) (hff : fac (a_row A) F) : ∀ (t n j : Nat) (M : pm_M), j + t = 4 → t < n → M 88 = A → IN113 P o (a_row A) F M →
    ok (f_Q_spreads_87_113_L2 n o j M) (fun M' => DE113 o M M' ∧ IN113 P o (a_row A) F M' ∧ ∀ m, m ≤ t → ∀ s u, inS P s → cn P m s u → M 113 (o + phi (a_row A) u) + m < 100000 → M' 113 (o + phi (a_row A) s) ≤ M 113 (o + phi (a_row A) u) + m) := by
  intro t
  induction t with
  | zero =>
    intro n j M hj hn hM hI
    cases n with
    | zero => omega
    | succ n =>
      unfold f_Q_spreads_87_113_L2
      refine ok_pos (by omega) (ok_some ⟨DE_rf113 M, hI, fun m hm s u hs hc hk => ?_⟩)
      have e0 : m = 0 := by omega
      subst e0
      have hc : s = u := hc
      subst hc
      omega
  | succ t ih =>
    intro n j M hj hn hM hI
    cases n with
    | zero => omega
    | succ n =>
      unfold f_Q_spreads_87_113_L2
      refine ok_neg (by omega) (ok_bind (q_10113 hP ho hPA hF hF0 hff j 7776 pm_F 0 M (by omega) (by unfold pm_F; omega) hM hI) ?_)
      rintro _ ⟨M1, rfl, z2, z3, z4⟩
      dsimp only
      rw [i_ad_eq (by omega)]
      refine ok_mono (ih n (j + 1) M1 (by omega) (by omega) (by rw [z2.2.2 88 (by decide)]; exact hM) z3) ?_
      rintro M' ⟨y1, y2, y3⟩
      refine ⟨DE_tr113 z2 y1, y2, fun m hm s u hs hc hk => ?_⟩
      cases m with
      | zero =>
        have hc : s = u := hc
        subst hc
        have k1 := (DE_tr113 z2 y1).1 (o + phi (a_row A) s)
        omega
      | succ m =>
        obtain ⟨a, b, ha, hb, hu, h2⟩ := cn_last hP m s u hs.1 hc
        have iu := cn_inS hP _ s u hs hc
        have g1 := z4 u iu (by omega) (by omega) a b ha hb
        have g2 := y3 m (by omega) s _ hs h2 (by omega)
        omega
theorem q_spr113 {M : pm_M} (hP : P ≤ 5) (ho : o + 7776 ≤ 69984) (hPA : A 0 = P) (hM : M 88 = A) (hout : ∀ w, w < 7776 → (∀ s, inS P s → phi (a_row A) s ≠ w) → M 113 (o + w) = 100000) (hbd : ∀ w, w < 7776 → 0 ≤ M 113 (o + w) ∧ M 113 (o + w) ≤ 100000) : ok (f_Q_spreads_87_113 o M) (fun M' => (∀ s, inS P s → M' 113 (o + phi (a_row A) s) = spr P (fun s => M 113 (o + phi (a_row A) s)) s) ∧ (∀ w, w < 7776 → (∀ s, inS P s → phi (a_row A) s ≠ w) → M' 113 (o + w) = 100000) ∧ (∀ w, w < 7776 → 0 ≤ M' 113 (o + w) ∧ M' 113 (o + w) ≤ 100000) ∧ (∀ i, i < o ∨ o + 7776 ≤ i → M' 113 i = M 113 i) ∧ fr [113] M M') := by
  obtain ⟨l1, u1, r1⟩ := spr_ok hP (fun s => M 113 (o + phi (a_row A) s))
  have h0 := spr_0 hP (c := fun s => M 113 (o + phi (a_row A) s)) (fun s hs => (hbd _ (phi_lt (a_row A) hs)).1)
  have hff : fac (a_row A) (spr P (fun s => M 113 (o + phi (a_row A) s))) := fac_spr hP (fun s s' _ _ he => by show M 113 (o + phi (a_row A) s) = M 113 (o + phi (a_row A) s'); rw [he])
  unfold f_Q_spreads_87_113
  refine ok_bind (q_2113 hP ho hPA l1 (fun s hs => h0 s hs.1) hff 4 pm_F 0 M (by omega) (by unfold pm_F; omega) hM ⟨hout, fun s hs => u1 s hs.1, hbd⟩) (fun M' h => ok_some ?_)
  obtain ⟨d, i, k⟩ := h
  refine ⟨fun s hs => ?_, i.1, i.2.2, d.2.1, d.2.2⟩
  have low := i.2.1 s hs
  obtain ⟨t, m, a1, a2, a3⟩ := r1 s hs.1
  have hb := i.2.2 _ (phi_lt (a_row A) hs.1)
  by_cases hk : M 113 (o + phi (a_row A) t) + m < 100000
  · have := k m a1 s t hs a2 hk
    have a3' : M 113 (o + phi (a_row A) t) + m ≤ spr P (fun s => M 113 (o + phi (a_row A) s)) s := a3
    omega
  · have a3' : M 113 (o + phi (a_row A) t) + m ≤ spr P (fun s => M 113 (o + phi (a_row A) s)) s := a3
    omega
end
