/-! NIGHTS: the class makes its orders -/
def SC (l : List Nat) (M : pm_M) : Prop := l.length = 5 ∧ ∀ i, i < 5 → M 82 i = (l.getD i 0 : Int)
def NT (M : pm_M) : Prop := (∀ s p, s < 120 → p < 5 → M 78 (5 * s + p) = ((wr s).getD p 0 : Int)) ∧ ∀ s a b, s < 120 → b < 5 → a < b → M 79 (10 * s + (b * (b - 1) / 2 + a)) = (tT a b s : Int)
theorem swl_g {l : List Nat} (hl : l.length = 5) {a b : Nat} (ha : a < 5) (hb : b < 5) (i : Nat) (hi : i < 5) : (swl a b l).getD i 0 = if i = b then l.getD a 0 else if i = a then l.getD b 0 else l.getD i 0 := by
  unfold swl
  simp only [List.getD_eq_getElem?_getD]
  rw [List.getElem?_set, List.getElem?_set, List.length_set]
  by_cases h1 : b = i
  · rw [if_pos h1, if_pos (by omega), if_pos h1.symm]; rfl
  · rw [if_neg h1, if_neg (Ne.symm h1)]
    by_cases h2 : a = i
    · rw [if_pos h2, if_pos (by omega), if_pos h2.symm]; rfl
    · rw [if_neg h2, if_neg (Ne.symm h2)]
theorem swl_len (a b : Nat) (l : List Nat) : (swl a b l).length = l.length := by unfold swl; rw [List.length_set, List.length_set]
theorem x_swS {l : List Nat} {M : pm_M} {a b : Nat} (h : SC l M) (ha : a < 5) (hb : b < 5) : ok (f_Nights_swapScratch a b M) (fun M' => SC (swl a b l) M' ∧ fr [82] M M') := by
  unfold f_Nights_swapScratch
  rw [tn_nat, tn_nat, h.2 a ha, h.2 b hb]
  refine ok_pos (by omega) (ok_pos (by omega) (ok_pos (by omega) (ok_bd (ok_pos (by omega) (ok_bd (ok_some ⟨⟨by rw [swl_len]; exact h.1, fun i hi => ?_⟩, fr_2 (fr_ms (by decide)) (fr_ms (by decide))⟩))))))
  rw [msc, aSn, msc, aSn, swl_g h.1 ha hb i hi]
  by_cases h1 : i = b
  · rw [if_pos h1, if_pos h1]
  · rw [if_neg h1, if_neg h1]
    by_cases h2 : i = a
    · rw [if_pos h2, if_pos h2]
    · rw [if_neg h2, if_neg h2]; exact h.2 i hi
theorem x_wr2 (y1 : Int) : ∀ (k n q : Nat) (M : pm_M), q + k = 5 → k < n → (∀ i, i < q → M 82 i = (i : Int)) → ok (f_Nights_write_L2 n y1 q M) (fun z => z.1 = y1 ∧ SC [0, 1, 2, 3, 4] z.2 ∧ fr [82] M z.2) := by
  intro k
  induction k with
  | zero =>
    intro n q M hq hn h
    cases n with
    | zero => omega
    | succ n =>
      unfold f_Nights_write_L2
      refine ok_pos (by omega) (ok_some ⟨rfl, ⟨rfl, fun i hi => ?_⟩, fr_rf _ _⟩)
      show M 82 i = _
      rw [h i (by omega)]
      rcases (show i = 0 ∨ i = 1 ∨ i = 2 ∨ i = 3 ∨ i = 4 by omega) with rfl | rfl | rfl | rfl | rfl <;> rfl
  | succ k ih =>
    intro n q M hq hn h
    cases n with
    | zero => omega
    | succ n =>
      unfold f_Nights_write_L2
      rw [tn_nat, i_ad_eq (by omega)]
      refine ok_neg (by omega) (ok_pos (by omega) (ok_bd (ok_mono (ih n (q + 1) _ (by omega) (by omega) (fun i hi => ?_)) (fun z hz => ⟨hz.1, hz.2.1, fr_2 (fr_ms (by decide)) hz.2.2⟩))))
      rw [msc, aSn]
      by_cases e : i = q
      · rw [if_pos e, e]
      · rw [if_neg e]; exact h i (by omega)
theorem x_wr24 : ∀ (k n p r : Nat) (l : List Nat) (M : pm_M), p + k = 5 → 1 ≤ p → k < n → r < 100000 → SC l M → ok (f_Nights_write_L24 n r p M) (fun M' => SC (wrL k p r l) M' ∧ fr [82] M M') := by
  intro k
  induction k with
  | zero =>
    intro n p r l M hp hp1 hn hr h
    cases n with
    | zero => omega
    | succ n =>
      unfold f_Nights_write_L24
      exact ok_pos (by omega) (ok_some ⟨h, fr_rf _ _⟩)
  | succ k ih =>
    intro n p r l M hp hp1 hn hr h
    cases n with
    | zero => omega
    | succ n =>
      unfold f_Nights_write_L24
      rw [i_ad_eq (by omega), i_rm_eq (by omega) (by omega), i_dv_eq (by omega) (by omega), show (r : Int) % ((p : Int) + 1) = ((r % (p + 1) : Nat) : Int) by rw [show (p : Int) + 1 = ((p + 1 : Nat) : Int) by omega]; exact (Int.natCast_emod r (p + 1)).symm, show (r : Int) / ((p : Int) + 1) = ((r / (p + 1) : Nat) : Int) by rw [show (p : Int) + 1 = ((p + 1 : Nat) : Int) by omega]; exact (Int.natCast_ediv r (p + 1)).symm]
      have hm : r % (p + 1) < p + 1 := Nat.mod_lt _ (by omega)
      have hd : r / (p + 1) ≤ r := Nat.div_le_self _ _
      refine ok_neg (by omega) (ok_neg (by omega) (ok_bind (x_swS h (by omega) (by omega)) (fun M1 h1 => ok_neg (by omega) ?_)))
      exact ok_mono (ih n (p + 1) (r / (p + 1)) _ M1 (by omega) (by omega) (by omega) (by omega) h1.1) (fun M' h' => ⟨h'.1, fr_2 h1.2 h'.2⟩)
theorem x_write {s : Nat} (hs : s < 120) (M : pm_M) : ok (f_Nights_write s M) (fun M' => SC (wr s) M' ∧ fr [82] M M') := by
  unfold f_Nights_write
  refine ok_bind (x_wr2 s 5 pm_F 0 M (by omega) (by unfold pm_F; omega) (fun i hi => by omega)) ?_
  rintro ⟨y, M1⟩ ⟨h1, h2, h3⟩
  dsimp only at h1 h2 h3 ⊢
  subst h1
  exact ok_bind (x_wr24 4 pm_F 1 s _ M1 (by omega) (by omega) (by unfold pm_F; omega) (by omega) h2) (fun M2 g => ok_some ⟨g.1, fr_2 h3 g.2⟩)
theorem x_n13 {l : List Nat} {M : pm_M} (h : SC l M) (y1 : Int) {p : Nat} (hp : p < 5) : ∀ (k n i f : Nat), i + k = p + 1 → k < n → f < 5 → 1 ≤ i → f_Nights_numberOfScratch_L13 M n y1 p f i = some (y1, (p : Int), (fnd l p k i f : Int)) ∧ fnd l p k i f < 5 := by
  intro k
  induction k with
  | zero =>
    intro n i f hi hn hf h1
    cases n with
    | zero => omega
    | succ n =>
      unfold f_Nights_numberOfScratch_L13
      rw [if_pos (by omega)]
      exact ⟨rfl, hf⟩
  | succ k ih =>
    intro n i f hi hn hf h1
    cases n with
    | zero => omega
    | succ n =>
      unfold f_Nights_numberOfScratch_L13
      rw [if_neg (by omega), if_pos (by omega), tn_nat, h.2 i (by omega), i_ad_eq (by omega), fnd]
      by_cases e : l.getD i 0 = p
      · rw [if_pos (by omega), if_pos e]
        exact ih n (i + 1) i (by omega) (by omega) (by omega) (by omega)
      · rw [if_neg (by omega), if_neg e]
        exact ih n (i + 1) f (by omega) (by omega) hf (by omega)
theorem fnd_le {l : List Nat} {p : Nat} : ∀ (k i f : Nat), f < i + k → fnd l p k i f < i + k
  | 0, i, f, h => h
  | k + 1, i, f, h => by
    rw [fnd]
    have := fnd_le (l := l) (p := p) k (i + 1) (if l.getD i 0 = p then i else f) (by split <;> omega)
    omega
theorem x_n4 : ∀ (p n m : Nat) (l : List Nat) (M : pm_M), p < 5 → p < n → m + 1 ≤ 5 ^ (4 - p) → SC l M → ok (f_Nights_numberOfScratch_L4 n m p M) (fun z => z.1 = (nmL p m l : Int) ∧ fr [82] M z.2) := by
  intro p
  induction p with
  | zero =>
    intro n m l M hp hn hm h
    cases n with
    | zero => omega
    | succ n =>
      unfold f_Nights_numberOfScratch_L4
      exact ok_pos (by omega) (ok_some ⟨rfl, fr_rf _ _⟩)
  | succ p ih =>
    intro n m l M hp hn hm h
    cases n with
    | zero => omega
    | succ n =>
      have h13 := x_n13 h m (p := p + 1) hp (p + 1) pm_F 1 0 (by omega) (by unfold pm_F; omega) (by omega) (by omega)
      have hfl := fnd_le (l := l) (p := p + 1) (p + 1) 1 0 (by omega)
      unfold f_Nights_numberOfScratch_L4
      rw [show ((0 : Nat) : Int) = 0 from rfl, show ((1 : Nat) : Int) = 1 from rfl] at h13
      refine ok_neg (by omega) (ok_be h13.1 ?_)
      dsimp only
      rw [nmL]
      generalize fnd l (p + 1) (p + 1) 1 0 = f at h13 hfl
      have hpow : 5 ^ (4 - (p + 1)) ≤ 5 ^ 3 := Nat.pow_le_pow_right (by omega) (by omega)
      have hpw : 5 ^ (4 - p) = 5 ^ (4 - (p + 1)) * 5 := by rw [← Nat.pow_succ]; congr 1; omega
      have hmp : (m + 1) * (p + 2) ≤ 5 ^ (4 - (p + 1)) * 5 := Nat.mul_le_mul hm (by omega)
      have hmul : (m + 1) * (p + 2) = m * (p + 2) + (p + 2) := by rw [Nat.add_mul, Nat.one_mul]
      have hcast : (m : Int) * (((p + 1 : Nat) : Int) + 1) = ((m * (p + 2) : Nat) : Int) := by
        rw [show ((p + 1 : Nat) : Int) + 1 = ((p + 2 : Nat) : Int) by omega]; simp
      refine ok_bind (x_swS h h13.2 hp) (fun M1 h1 => ok_bd ?_)
      rw [i_ad_eq (a := ((p + 1 : Nat) : Int)) (b := 1) (by omega), i_ml_eq (by rw [hcast]; omega), hcast, i_ad_eq (by omega), i_ad_eq (by omega), show ((m * (p + 2) : Nat) : Int) + (f : Int) = ((m * (p + 2) + f : Nat) : Int) by omega, show ((p + 1 : Nat) : Int) + -1 = (p : Int) by omega]
      exact ok_mono (ih n (m * (p + 2) + f) _ M1 (by omega) (by omega) (by omega) h1.1) (fun z hz => ⟨hz.1, fr_2 h1.2 hz.2⟩)
theorem x_numb {l : List Nat} {M : pm_M} (h : SC l M) : ok (f_Nights_numberOfScratch M) (fun z => z.1 = (nmb l : Int) ∧ fr [82] M z.2) := by
  unfold f_Nights_numberOfScratch
  have := x_n4 4 pm_F 0 l M (by omega) (by unfold pm_F; omega) (by decide) h
  rw [show ((0 : Nat) : Int) = 0 from rfl, show ((4 : Nat) : Int) = 4 from rfl] at this
  exact ok_bind this (fun z hz => ok_some ⟨hz.1, hz.2⟩)
theorem x_mk2 : ∀ (k n s : Nat) (M : pm_M), s + k = 120 → k < n → (∀ t p, t < s → p < 5 → M 78 (5 * t + p) = ((wr t).getD p 0 : Int)) → ok (f_Nights_makeStates_L2 n s M) (fun M' => (∀ t p, t < 120 → p < 5 → M' 78 (5 * t + p) = ((wr t).getD p 0 : Int)) ∧ fr [78, 82] M M') := by
  intro k
  induction k with
  | zero =>
    intro n s M hs hn h
    cases n with
    | zero => omega
    | succ n =>
      unfold f_Nights_makeStates_L2
      exact ok_pos (by omega) (ok_some ⟨fun t p ht hp => h t p (by omega) hp, fr_rf _ _⟩)
  | succ k ih =>
    intro n s M hs hn h
    cases n with
    | zero => omega
    | succ n =>
      unfold f_Nights_makeStates_L2
      rw [i_ml_eq (by omega), i_ad_eq (by omega), show ((s : Int) * 5).toNat = 5 * s by omega]
      refine ok_neg (by omega) (ok_bind (x_write (by omega) M) (fun M1 h1 => ok_pos (by omega) (ok_bd ?_)))
      have f2 : fr [78, 82] M (pm_cp M1 82 78 0 (5 * s) 5) := fr_tr h1.2 (S2 := [78]) (fr_cp (by decide)) (by decide) (by decide)
      refine ok_mono (ih n (s + 1) _ (by omega) (by omega) (fun t p ht hp => ?_)) (fun M' h' => ⟨h'.1, fr_2 f2 h'.2⟩)
      rw [cpn, if_pos rfl]
      by_cases e : t = s
      · rw [if_pos (by omega), e, show 0 + (5 * s + p - 5 * s) = p by omega]
        exact h1.1.2 p hp
      · rw [if_neg (by omega), h1.2 78 (by decide)]
        exact h t p (by omega) hp
def t79 (M : pm_M) (s a b : Nat) : Prop := M 79 (10 * s + (b * (b - 1) / 2 + a)) = (tT a b s : Int)
theorem swb {b : Nat} (hb : b < 5) : b * (b - 1) / 2 + b ≤ 10 ∧ ((b : Int) * ((b : Int) - 1)) / 2 = ((b * (b - 1) / 2 : Nat) : Int) ∧ 0 ≤ (b : Int) * ((b : Int) - 1) ∧ (b : Int) * ((b : Int) - 1) ≤ 20 := by
  rcases (show b = 0 ∨ b = 1 ∨ b = 2 ∨ b = 3 ∨ b = 4 by omega) with rfl | rfl | rfl | rfl | rfl <;> decide
theorem swn {a b a' b' : Nat} (hb : b < 5) (ha : a < b) (hb' : b' < 5) (ha' : a' < b') (h : b * (b - 1) / 2 + a = b' * (b' - 1) / 2 + a') : a = a' ∧ b = b' := by
  rcases (show b = 1 ∨ b = 2 ∨ b = 3 ∨ b = 4 by omega) with rfl | rfl | rfl | rfl
  all_goals rcases (show b' = 1 ∨ b' = 2 ∨ b' = 3 ∨ b' = 4 by omega) with rfl | rfl | rfl | rfl
  all_goals simp at h ⊢
  all_goals omega
theorem x_swOf {a b : Nat} (hb : b < 5) (ha : a < b) (M : pm_M) : f_Nights_swapOf a b M = some ((b * (b - 1) / 2 + a : Nat) : Int) := by
  obtain ⟨h1, h2, h3, h4⟩ := swb hb
  unfold f_Nights_swapOf
  rw [i_sb_eq (by omega), i_ml_eq (by omega), i_dv_eq (by omega) (by omega), h2, i_ad_eq (by omega)]
  refine congrArg some ?_
  omega
theorem x_mk52 {s b : Nat} (hs : s < 120) (hb : 1 ≤ b ∧ b < 5) : ∀ (k n a : Nat) (M : pm_M), a + k = b → k < n → (∀ p, p < 5 → M 78 (5 * s + p) = ((wr s).getD p 0 : Int)) → ok (f_Nights_makeStates_L52 n s b a M) (fun z => ∃ M', z = ((s : Int), (b : Int), M') ∧ (∀ a', a ≤ a' → a' < b → t79 M' s a' b) ∧ (∀ i, (∀ a', a ≤ a' → a' < b → i ≠ 10 * s + (b * (b - 1) / 2 + a')) → M' 79 i = M 79 i) ∧ fr [79, 82] M M') := by
  intro k
  induction k with
  | zero =>
    intro n a M ha hn h
    cases n with
    | zero => omega
    | succ n =>
      unfold f_Nights_makeStates_L52
      exact ok_pos (by omega) (ok_some ⟨M, rfl, fun a' h1 h2 => by omega, fun _ _ => rfl, fr_rf _ _⟩)
  | succ k ih =>
    intro n a M ha hn h
    cases n with
    | zero => omega
    | succ n =>
      obtain ⟨w1, w2, w3⟩ := w_num hs
      have hsw := swb hb.2
      unfold f_Nights_makeStates_L52
      rw [i_ml_eq (b := 5) (by omega), show ((s : Int) * 5).toNat = 5 * s by omega, i_ad_eq (a := (a : Int)) (by omega)]
      refine ok_neg (by omega) (ok_pos (by omega) (ok_bd ?_))
      have f1 : fr [82] M (pm_cp M 78 82 (5 * s) 0 5) := fr_cp (by decide)
      have sc1 : SC (wr s) (pm_cp M 78 82 (5 * s) 0 5) := ⟨w2, fun i hi => by rw [cpn, if_pos rfl, if_pos (by omega), show 5 * s + (i - 0) = 5 * s + i by omega]; exact h i hi⟩
      refine ok_bind (x_swS sc1 (show a < 5 by omega) hb.2) (fun M2 h2 => ok_be (x_swOf hb.2 (by omega) M2) (ok_bind (x_numb h2.1) ?_))
      rintro ⟨v, M3⟩ ⟨hv, hf3⟩
      dsimp only at hv hf3 ⊢
      rw [i_ml_eq (b := 10) (by omega), i_ad_eq (by omega), show ((s : Int) * 10 + ((b * (b - 1) / 2 + a : Nat) : Int)).toNat = 10 * s + (b * (b - 1) / 2 + a) by omega, hv]
      refine ok_pos (by omega) (ok_bd ?_)
      have f4 : fr [79, 82] M (pm_ms M3 79 (10 * s + (b * (b - 1) / 2 + a)) (nmb (swl a b (wr s)) : Int)) := fr_tr (fr_tr f1 h2.2 (S := [82]) (by decide) (by decide) |> fun z => fr_tr z hf3 (S := [82]) (by decide) (by decide)) (S2 := [79]) (fr_ms (by decide)) (by decide) (by decide)
      have m79 : M3 79 = M 79 := by rw [hf3 79 (by decide), h2.2 79 (by decide), f1 79 (by decide)]
      refine ok_mono (ih n (a + 1) _ (by omega) (by omega) (fun p hp => by rw [f4 78 (by decide)]; exact h p hp)) ?_
      rintro z ⟨M', z1, z2, z3, z4⟩
      refine ⟨M', z1, fun a' g1 g2 => ?_, fun i hi => ?_, fr_2 f4 z4⟩
      · by_cases e : a' = a
        · subst e
          unfold t79
          rw [z3 _ (fun a'' g3 g4 => by omega), msc, aSn, if_pos rfl]
          rfl
        · exact z2 a' (by omega) g2
      · rw [z3 i (fun a'' g3 g4 => hi a'' (by omega) g4), msc, aSn, if_neg (hi a (by omega) (by omega)), m79]
theorem x_mk45 {s : Nat} (hs : s < 120) : ∀ (k n b : Nat) (M : pm_M), b + k = 5 → 1 ≤ b → k < n → (∀ p, p < 5 → M 78 (5 * s + p) = ((wr s).getD p 0 : Int)) → (∀ b' a, b' < b → a < b' → t79 M s a b') → ok (f_Nights_makeStates_L45 n s b M) (fun z => ∃ M', z = ((s : Int), M') ∧ (∀ b' a, b' < 5 → a < b' → t79 M' s a b') ∧ (∀ i, i < 10 * s ∨ 10 * s + 10 ≤ i → M' 79 i = M 79 i) ∧ fr [79, 82] M M') := by
  intro k
  induction k with
  | zero =>
    intro n b M hb h1 hn h h79
    cases n with
    | zero => omega
    | succ n =>
      unfold f_Nights_makeStates_L45
      exact ok_pos (by omega) (ok_some ⟨M, rfl, fun b' a g1 g2 => h79 b' a (by omega) g2, fun _ _ => rfl, fr_rf _ _⟩)
  | succ k ih =>
    intro n b M hb h1 hn h h79
    cases n with
    | zero => omega
    | succ n =>
      have hsw := swb (show b < 5 by omega)
      unfold f_Nights_makeStates_L45
      refine ok_neg (by omega) (ok_bind (x_mk52 hs ⟨h1, by omega⟩ b pm_F 0 M (by omega) (by unfold pm_F; omega) h) ?_)
      rintro _ ⟨M1, rfl, z2, z3, z4⟩
      dsimp only
      rw [i_ad_eq (by omega)]
      refine ok_mono (ih n (b + 1) M1 (by omega) (by omega) (by omega) (fun p hp => by rw [z4 78 (by decide)]; exact h p hp) (fun b' a g1 g2 => ?_)) ?_
      · by_cases e : b' = b
        · rw [e]; exact z2 a (by omega) (by omega)
        · unfold t79
          rw [z3 _ (fun a' q1 q2 hh => by have := swn (show b' < 5 by omega) g2 (show b < 5 by omega) q2 (by omega); omega)]
          exact h79 b' a (by omega) g2
      · rintro z ⟨M', y1, y2, y3, y4⟩
        refine ⟨M', y1, y2, fun i hi => ?_, fr_2 z4 y4⟩
        rw [y3 i hi, z3 i (fun a' q1 q2 => by omega)]
theorem x_mk37 : ∀ (k n s : Nat) (M : pm_M), s + k = 120 → k < n → (∀ t p, t < 120 → p < 5 → M 78 (5 * t + p) = ((wr t).getD p 0 : Int)) → (∀ t a b, t < s → b < 5 → a < b → t79 M t a b) → ok (f_Nights_makeStates_L37 n s M) (fun M' => NT M' ∧ fr [79, 82] M M') := by
  intro k
  induction k with
  | zero =>
    intro n s M hs hn h h79
    cases n with
    | zero => omega
    | succ n =>
      unfold f_Nights_makeStates_L37
      exact ok_pos (by omega) (ok_some ⟨⟨h, fun t a b ht hb ha => h79 t a b (by omega) hb ha⟩, fr_rf _ _⟩)
  | succ k ih =>
    intro n s M hs hn h h79
    cases n with
    | zero => omega
    | succ n =>
      unfold f_Nights_makeStates_L37
      refine ok_neg (by omega) (ok_bind (x_mk45 (show s < 120 by omega) 4 pm_F 1 M (by omega) (by omega) (by unfold pm_F; omega) (fun p hp => h s p (by omega) hp) (fun b' a g1 g2 => by omega)) ?_)
      rintro _ ⟨M1, rfl, z2, z3, z4⟩
      dsimp only
      rw [i_ad_eq (by omega)]
      refine ok_mono (ih n (s + 1) M1 (by omega) (by omega) (fun t p ht hp => by rw [z4 78 (by decide)]; exact h t p ht hp) (fun t a b ht hb ha => ?_)) (fun M' h' => ⟨h'.1, fr_2 z4 h'.2⟩)
      by_cases e : t = s
      · rw [e]; exact z2 b a hb ha
      · have hsw := swb hb
        unfold t79
        rw [z3 _ (by omega)]
        exact h79 t a b (by omega) hb ha
theorem x_make (M : pm_M) : ok (f_Nights_makeStates M) (fun M' => NT M' ∧ fr [78, 79, 82] M M') := by
  unfold f_Nights_makeStates
  refine ok_bind (x_mk2 120 pm_F 0 M (by omega) (by unfold pm_F; omega) (fun t p ht => by omega)) (fun M1 h1 => ?_)
  exact ok_bind (x_mk37 120 pm_F 0 M1 (by omega) (by unfold pm_F; omega) h1.1 (fun t a b ht => by omega)) (fun M2 h2 => ok_some ⟨h2.1, fr_tr h1.2 h2.2 (by decide) (by decide)⟩)
