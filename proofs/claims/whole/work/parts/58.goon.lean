/-! TOURS: the class -/
def apA (A : Nat → Int) (a b : Nat) : Int := ((A (10 + 4 * a) - A (10 + 4 * b)).natAbs : Int) + ((A (11 + 4 * a) - A (11 + 4 * b)).natAbs : Int)
def vwA (A : Nat → Int) (q : Nat) : Int := if q < 8 then A (13 + 4 * q) else 0
theorem apA_0 (A : Nat → Int) : ∀ a b, 0 ≤ apA A a b := fun a b => by unfold apA; omega
theorem apA_t (A : Nat → Int) : ∀ a b c, apA A a c ≤ apA A a b + apA A b c := fun a b c => by unfold apA; omega
def SXt (s : tS) (M : pm_M) : Prop := M 83 6 = s.1 ∧ M 83 7 = s.2.1 ∧ M 83 5 = (s.2.2.1 : Int) ∧ s.2.2.1 ≤ 8 ∧ ∀ i, i < s.2.2.1 → M 86 i = (s.2.2.2 i : Int)
def g_tail (rc : Int → Int → Int → Int → pm_M → Option pm_M) (x1 x2 x3 x4 : Int) (M : pm_M) : Option pm_M :=
  if 8 ≤ x1 then some M else (
    if 0 ≤ (i_sb x1 1) ∧ (i_sb x1 1) < 8 then (
    (f_Walk_canBeBetter (M 85 ((i_sb x1 1)).toNat) x2 x3 x4 M).bind fun r559 =>
    if r559 = 0 then (some M) else (
      if 0 ≤ (i_sb x1 1) ∧ (i_sb x1 1) < 8 then (
      pm_bd (i_ml (M 85 ((i_sb x1 1)).toNat) 8) fun v560 =>
      (f_Walk_goOn_L98 rc pm_F x1 x2 x3 x4 v560 0 M).bind fun e566 => some e566) else none)) else none)
section
variable {A : Nat → Int} {P : Nat} {lim : Int}
theorem vwA_0 (hA : WF A) : ∀ q, 0 ≤ vwA A q ∧ vwA A q ≤ 9 := fun q => by
  unfold vwA
  split
  · rename_i h; have := hA.2.2.2.2.2.2.1 q h; omega
  · omega
theorem apA_b (hA : WF A) {a b : Nat} (ha : a < 8) (hb : b < 8) : apA A a b ≤ 198 := by
  have h1 := hA.2.2.2.2.2.2.1 a ha
  have h2 := hA.2.2.2.2.2.2.1 b hb
  unfold apA; omega
theorem a_mi_ap (hA : WF A) {a b : Nat} (ha : a < 8) (hb : b < 8) : a_mi A a b = apA A a b := by
  have h1 := hA.2.2.2.2.2.2.1 a ha
  have h2 := hA.2.2.2.2.2.2.1 b hb
  unfold a_mi apA
  rw [i_ab_eq (by omega), i_ab_eq (by omega)]
  split <;> split <;> omega
/-- the cells of a walk that stay -/
def WK (A : Nat → Int) (P : Nat) (lim : Int) (M : pm_M) : Prop := CX 24 36 1 A M ∧ M 83 4 = lim ∧ ∀ a b, a < P → b < P → M 84 (8 * a + b) = apA A a b
theorem WK_fr {M M' : pm_M} {S : List Nat} (h : WK A P lim M) (hf : fr S M M') (hS : (∀ c ∈ [1, 2, 24, 25, 26, 27, 28, 29, 30, 31, 32, 33, 34, 36], c ∉ S) ∧ 84 ∉ S) (h4 : M' 83 4 = M 83 4) : WK A P lim M' := ⟨CX_fr hf hS.1 h.1, h4.trans h.2.1, fun a b ha hb => by rw [hf 84 hS.2]; exact h.2.2 a b ha hb⟩
theorem x_view {M : pm_M} (hC : CX 24 36 1 A M) {q : Nat} (hq : q < 8) : f_Told_viewOf q M = some (vwA A q) := by
  unfold f_Told_viewOf vwA
  rw [if_pos (by omega), tn_nat, (hC.1.2.1 q hq).2.2.2, if_pos hq]
theorem x_cbb {M : pm_M} (hA : WF A) (hP : A 0 = P) (hW : WK A P lim M) {f : Nat → Nat} {len msk : Nat} {mi : Int} (hmi : 0 ≤ mi ∧ mi ≤ 999) (hlim : lim ≤ 999) (hm : msk < 256) (hb : ∀ q, q < 8 → msk.testBit q = onw f len q) (hl : f (len - 1) < P) : ∀ (t n c : Nat) (y : Int), c + t = P → t < n → 0 ≤ y → y ≤ 1000 + 9 * c →
    f_Walk_canBeBetter_L7 M n (f (len - 1)) msk mi y c = some (mi, y + (smv P (hs (apA A) (vwA A) lim f len mi) - smv c (hs (apA A) (vwA A) lim f len mi))) := by
  have w0 := hA.1
  intro t
  induction t with
  | zero =>
    intro n c y hc hn hy1 hy2
    cases n with
    | zero => omega
    | succ n =>
      unfold f_Walk_canBeBetter_L7 f_Told_plinths
      rw [hW.1.1.1.1, hP, ob, if_pos (by omega), show c = P by omega]
      refine congrArg some ?_
      rw [Int.sub_self, Int.add_zero]
  | succ t ih =>
    intro n c y hc hn hy1 hy2
    cases n with
    | zero => omega
    | succ n =>
      have hv := vwA_0 hA c
      have hab := apA_b hA (a := f (len - 1)) (b := c) (by omega) (by omega)
      have ha0 := apA_0 A (f (len - 1)) c
      have skip : hs (apA A) (vwA A) lim f len mi c = 0 → f_Walk_canBeBetter_L7 M n (f (len - 1)) msk mi y ((c : Int) + 1) = some (mi, y + (smv P (hs (apA A) (vwA A) lim f len mi) - smv c (hs (apA A) (vwA A) lim f len mi))) := by
        intro h
        have := ih n (c + 1) y (by omega) (by omega) hy1 (by omega)
        rw [smv, h, Int.add_zero, show ((c + 1 : Nat) : Int) = (c : Int) + 1 by omega] at this
        exact this
      unfold f_Walk_canBeBetter_L7 f_Told_plinths
      rw [hW.1.1.1.1, hP, ob, if_neg (by omega), i_ml_eq (by omega), i_ad_eq (a := (f (len - 1) : Int) * 8) (by omega), i_ad_eq (a := (c : Int)) (b := 1) (by omega), show ((f (len - 1) : Int) * 8 + (c : Int)).toNat = 8 * f (len - 1) + c by omega, hW.2.2 _ _ hl (by omega), hW.2.1, i_ad_eq (a := mi) (by omega)]
      by_cases h1 : i_an (msk : Int) (i_sl 1 (c : Int)) = 0
      · rw [if_pos h1]
        have h1' : onw f len c = false := by rw [← hb c (by omega)]; exact (an_sl (by omega) (by omega)).mp h1
        rw [if_pos (by omega)]
        by_cases h2 : lim < mi + apA A (f (len - 1)) c
        · rw [if_pos h2]
          exact skip (by unfold hs; rw [if_neg (fun z => by have := z.2; omega)])
        · rw [if_neg h2, x_view hW.1 (by omega), ob, i_ad_eq (by omega)]
          have := ih n (c + 1) (y + vwA A c) (by omega) (by omega) (by omega) (by omega)
          have e : hs (apA A) (vwA A) lim f len mi c = vwA A c := by unfold hs; rw [if_pos ⟨h1', by omega⟩]
          rw [smv, e, show ((c + 1 : Nat) : Int) = (c : Int) + 1 by omega] at this
          rw [this]
          refine congrArg some (congrArg (Prod.mk mi) ?_)
          omega
      · rw [if_neg h1]
        have h1' : onw f len c ≠ false := by rw [← hb c (by omega)]; exact fun z => h1 ((an_sl (by omega) (by omega)).mpr z)
        exact skip (by unfold hs; rw [if_neg (fun z => h1' z.1)])
theorem hs_b (hA : WF A) (f : Nat → Nat) (len : Nat) (mi : Int) : ∀ p, 0 ≤ hs (apA A) (vwA A) lim f len mi p ∧ hs (apA A) (vwA A) lim f len mi p ≤ 9 := fun p => by
  have := vwA_0 hA p
  unfold hs
  split <;> omega
theorem x_node {rc : Int → Int → Int → Int → pm_M → Option pm_M} {M : pm_M} {len msk : Nat} {f : Nat → Nat} {mi vi : Int} {s : tS} {Q : pm_M → Prop} (hl : 1 ≤ len ∧ len ≤ 8) (hS : SXt s M) (h85 : ∀ i, i < len → M 85 i = (f i : Int)) (tail : ∀ M1, SXt (upT s vi mi len f) M1 → fr [83, 86] M M1 → M1 83 4 = M 83 4 → ok (g_tail rc len msk mi vi M1) Q) : ok (f_Walk_goOn rc len msk mi vi M) Q := by
  obtain ⟨s6, s7, s5, s8, s86⟩ := id hS
  have upd : (s.1 < vi ∨ (vi = s.1 ∧ mi < s.2.1)) → ok (g_tail rc len msk mi vi (pm_ms (pm_ms (pm_ms (pm_cp M 85 86 0 0 len) 83 5 len) 83 6 vi) 83 7 mi)) Q := by
    intro hc
    refine tail _ ?_ (fr_2 (fr_2 (fr_2 (fr_cp (by decide)) (fr_ms (by decide))) (fr_ms (by decide))) (fr_ms (by decide))) ?_
    · unfold upT
      rw [if_pos hc]
      refine ⟨?_, ?_, ?_, hl.2, fun i hi => ?_⟩
      · rw [msc, aSn, if_neg (by omega), msc, aSn, if_pos rfl]
      · rw [msc, aSn, if_pos rfl]
      · rw [msc, aSn, if_neg (by omega), msc, aSn, if_neg (by omega), msc, aSn, if_pos rfl]
      · rw [pm_ms_ne (by omega), pm_ms_ne (by omega), pm_ms_ne (by omega), cpn, if_pos rfl]
        have := cp0 (f := M 85) (g := M 86) (show i < len from hi)
        rw [this, h85 i hi]
    · rw [msc, aSn, if_neg (by omega), msc, aSn, if_neg (by omega), msc, aSn, if_neg (by omega), cpn, if_neg (by omega)]
  have keep : ¬ (s.1 < vi ∨ (vi = s.1 ∧ mi < s.2.1)) → ok (g_tail rc len msk mi vi M) Q := by
    intro hc
    refine tail M ?_ (fr_rf _ _) rfl
    unfold upT
    rw [if_neg hc]
    exact hS
  unfold f_Walk_goOn
  rw [s6, s7, tn_nat]
  refine ok_ite (fun h1 => ok_pos (by omega) (upd (Or.inl h1))) (fun h1 => ok_ite (fun h2 => ok_ite (fun h3 => keep (by omega)) (fun h3 => ok_pos (by omega) (upd (Or.inr ⟨h2, by omega⟩)))) (fun h2 => keep (by omega)))
theorem x_goOn (hA : WF A) (hP : A 0 = P) (hlim : 0 ≤ lim ∧ lim ≤ 999) : ∀ (k kf len : Nat) (f : Nat → Nat) (mi vi : Int) (s : tS) (msk : Nat) (M : pm_M), len + k = 8 → 1 ≤ len → k < kf → WK A P lim M → SXt s M → (∀ i, i < len → M 85 i = (f i : Int)) → f (len - 1) < P → msk < 256 → (∀ q, q < 8 → msk.testBit q = onw f len q) → (0 ≤ mi ∧ mi ≤ lim) → (0 ≤ vi ∧ vi ≤ 9 * len) →
    ok (f_Walk_goOn_r kf len msk mi vi M) (fun M' => SXt (dfs (apA A) (vwA A) lim P k len f mi vi s) M' ∧ (∀ i, i < len → M' 85 i = M 85 i) ∧ M' 83 4 = M 83 4 ∧ fr [83, 85, 86] M M') := by
  have w0 := hA.1
  intro k
  induction k with
  | zero =>
    intro kf len f mi vi s msk M hk hl hkf hW hS h85 hlast hm hbit hmi hvi
    cases kf with
    | zero => omega
    | succ kf =>
      rw [f_Walk_goOn_r, dfs]
      refine x_node ⟨hl, by omega⟩ hS h85 (fun M1 h1 hf h4 => ?_)
      unfold g_tail
      exact ok_pos (by omega) (ok_some ⟨h1, fun i _ => by rw [hf 85 (by decide)], h4, fr_mo hf (by decide)⟩)
  | succ k ih =>
    intro kf len f mi vi s msk M hk hl hkf hW hS h85 hlast hm hbit hmi hvi
    cases kf with
    | zero => omega
    | succ kf =>
      rw [f_Walk_goOn_r, dfs_s]
      refine x_node ⟨hl, by omega⟩ hS h85 (fun M1 h1 hf h4 => ?_)
      have hW1 : WK A P lim M1 := WK_fr hW hf (by decide) h4
      have m85 : M1 85 = M 85 := hf 85 (by decide)
      have L : ∀ (t n c : Nat) (s1 : tS) (M2 : pm_M), c + t = P → t < n → WK A P lim M2 → SXt s1 M2 → (∀ i, i < len → M2 85 i = (f i : Int)) → ok (f_Walk_goOn_L98 (f_Walk_goOn_r kf) n len msk mi vi ((f (len - 1) : Int) * 8) c M2) (fun M' => SXt (dfL (chd (apA A) (vwA A) lim P k len f mi vi) t c s1) M' ∧ (∀ i, i < len → M' 85 i = M2 85 i) ∧ M' 83 4 = lim ∧ fr [83, 85, 86] M2 M') := by
        intro t
        induction t with
        | zero =>
          intro n c s1 M2 hc hn hW2 hS2 h852
          cases n with
          | zero => omega
          | succ n =>
            unfold f_Walk_goOn_L98 f_Told_plinths
            rw [hW2.1.1.1.1, hP]
            exact ok_be rfl (ok_pos (by omega) (ok_some ⟨hS2, fun _ _ => rfl, hW2.2.1, fr_rf _ _⟩))
        | succ t iht =>
          intro n c s1 M2 hc hn hW2 hS2 h852
          cases n with
          | zero => omega
          | succ n =>
            have hv := vwA_0 hA c
            have hab := apA_b hA (a := f (len - 1)) (b := c) (by omega) (by omega)
            have ha0 := apA_0 A (f (len - 1)) c
            unfold f_Walk_goOn_L98 f_Told_plinths
            rw [hW2.1.1.1.1, hP, i_ad_eq (a := (f (len - 1) : Int) * 8) (by omega), i_ad_eq (a := (c : Int)) (b := 1) (by omega), show ((f (len - 1) : Int) * 8 + (c : Int)).toNat = 8 * f (len - 1) + c by omega, hW2.2.2 _ _ hlast (by omega), hW2.2.1, i_ad_eq (a := mi) (by omega), dfL]
            refine ok_be rfl (ok_neg (by omega) (ok_pos (by omega) (ok_bd ?_)))
            have skip : ¬ (onw f len c = false ∧ mi + apA A (f (len - 1)) c ≤ lim) → ok (f_Walk_goOn_L98 (f_Walk_goOn_r kf) n len msk mi vi ((f (len - 1) : Int) * 8) ((c : Int) + 1) M2) (fun M' => SXt (dfL (chd (apA A) (vwA A) lim P k len f mi vi) t (c + 1) (chd (apA A) (vwA A) lim P k len f mi vi c s1)) M' ∧ (∀ i, i < len → M' 85 i = M2 85 i) ∧ M' 83 4 = lim ∧ fr [83, 85, 86] M2 M') := by
              intro h
              have e : chd (apA A) (vwA A) lim P k len f mi vi c s1 = s1 := by unfold chd; rw [if_neg h]
              rw [e]
              exact iht n (c + 1) s1 M2 (by omega) (by omega) hW2 hS2 h852
            refine ok_ite (fun g1 => ?_) (fun g1 => skip (fun z => g1 ((an_sl (by omega) (by omega)).mpr (by rw [hbit c (by omega)]; exact z.1))))
            have g1' : onw f len c = false := by rw [← hbit c (by omega)]; exact (an_sl (by omega) (by omega)).mp g1
            refine ok_ite (fun g2 => skip (fun z => by have := z.2; omega)) (fun g2 => ok_pos (by omega) (ok_bd ?_))
            have e : chd (apA A) (vwA A) lim P k len f mi vi c s1 = dfs (apA A) (vwA A) lim P k (len + 1) (aN f len c) (mi + apA A (f (len - 1)) c) (vi + vwA A c) s1 := by unfold chd; rw [if_pos ⟨g1', by omega⟩]
            rw [e, tn_nat]
            have f3 : fr [85] M2 (pm_ms M2 85 len c) := fr_ms (by decide)
            have hW3 : WK A P lim (pm_ms M2 85 len c) := WK_fr hW2 f3 (by decide) (by rw [f3 83 (by decide)])
            refine ok_be (x_view hW3.1 (by omega)) ?_
            rw [i_ad_eq (a := (len : Int)) (by omega), i_ad_eq (a := vi) (by omega), or_sl (by omega) (by omega)]
            have hcl : aN f len c (len + 1 - 1) = c := by unfold aN; rw [if_pos (by omega)]
            refine ok_bind (ih kf (len + 1) (aN f len c) (mi + apA A (f (len - 1)) c) (vi + vwA A c) s1 (msk ||| 2 ^ c) (pm_ms M2 85 len c) (by omega) (by omega) (by omega) hW3 ?_ (fun i hi => ?_) (by rw [hcl]; omega) ?_ (fun q hq => ?_) (by omega) (by omega)) ?_
            · obtain ⟨a1, a2, a3, a4, a5⟩ := hS2
              refine ⟨by rw [f3 83 (by decide)]; exact a1, by rw [f3 83 (by decide)]; exact a2, by rw [f3 83 (by decide)]; exact a3, a4, fun i hi => by rw [f3 86 (by decide)]; exact a5 i hi⟩
            · rw [msc, aSn]
              unfold aN
              by_cases hi2 : i = len
              · rw [if_pos hi2, if_pos hi2]
              · rw [if_neg hi2, if_neg hi2]; exact h852 i (by omega)
            · have : 2 ^ c < 2 ^ 8 := Nat.pow_lt_pow_right (by omega) (by omega)
              exact Nat.or_lt_two_pow (n := 8) hm this
            · rw [tb_or, hbit q hq, onw_s]
            · rintro M4 ⟨r1, r2, r3, r4⟩
              have f24 : fr [83, 85, 86] M2 M4 := fr_tr f3 r4 (by decide) (by decide)
              have r24 : M4 83 4 = M2 83 4 := by rw [r3, f3 83 (by decide)]
              have p24 : ∀ i, i < len → M4 85 i = M2 85 i := fun i hi => by rw [r2 i (by omega), msc, aSn, if_neg (by omega)]
              refine ok_mono (iht n (c + 1) _ M4 (by omega) (by omega) (WK_fr hW2 f24 (by decide) r24) r1 (fun i hi => by rw [p24 i hi]; exact h852 i hi)) ?_
              rintro M5 ⟨z1, z2, z3, z4⟩
              exact ⟨z1, fun i hi => (z2 i hi).trans (p24 i hi), z3, fr_2 f24 z4⟩
      unfold g_tail
      rw [i_sb_eq (by omega), show ((len : Int) - 1).toNat = len - 1 by omega, m85, h85 (len - 1) (by omega)]
      refine ok_neg (by omega) (ok_pos (by omega) ?_)
      unfold f_Walk_canBeBetter
      have hcb := x_cbb hA hP hW1 (f := f) (len := len) (msk := msk) (mi := mi) (by omega) hlim.2 hm hbit hlast P pm_F 0 vi (by omega) (by unfold pm_F; omega) hvi.1 (by omega)
      rw [smv, Int.sub_zero, show ((0 : Nat) : Int) = 0 from rfl] at hcb
      rw [hcb, ob, h1.1, h1.2.1]
      dsimp only
      have back : ∀ M', (SXt (dfL (chd (apA A) (vwA A) lim P k len f mi vi) P 0 (upT s vi mi len f)) M' ∧ (∀ i, i < len → M' 85 i = M1 85 i) ∧ M' 83 4 = lim ∧ fr [83, 85, 86] M1 M') → SXt (dfL (chd (apA A) (vwA A) lim P k len f mi vi) P 0 (upT s vi mi len f)) M' ∧ (∀ i, i < len → M' 85 i = M 85 i) ∧ M' 83 4 = M 83 4 ∧ fr [83, 85, 86] M M' := by
        rintro M' ⟨z1, z2, z3, z4⟩
        exact ⟨z1, fun i hi => by rw [z2 i hi, m85], z3.trans hW.2.1.symm, fr_tr hf z4 (by decide) (by decide)⟩
      have stop : nb (upT s vi mi len f) (vi + smv P (hs (apA A) (vwA A) lim f len mi)) mi → ok (some M1) (fun M' => SXt (dfL (chd (apA A) (vwA A) lim P k len f mi vi) P 0 (upT s vi mi len f)) M' ∧ (∀ i, i < len → M' 85 i = M 85 i) ∧ M' 83 4 = M 83 4 ∧ fr [83, 85, 86] M M') := by
        intro hn
        refine ok_some (back M1 ⟨?_, fun _ _ => rfl, hW1.2.1, fr_rf _ _⟩)
        rw [chd_nb (apA A) (vwA A) lim P (apA_0 A) (apA_t A) (fun q => (vwA_0 hA q).1) hl hn]
        exact h1
      have go : ok (pm_bd (i_ml (f (len - 1) : Int) 8) fun v560 => (f_Walk_goOn_L98 (f_Walk_goOn_r kf) pm_F len msk mi vi v560 0 M1).bind fun e566 => some e566) (fun M' => SXt (dfL (chd (apA A) (vwA A) lim P k len f mi vi) P 0 (upT s vi mi len f)) M' ∧ (∀ i, i < len → M' 85 i = M 85 i) ∧ M' 83 4 = M 83 4 ∧ fr [83, 85, 86] M M') := by
        refine ok_bd ?_
        rw [i_ml_eq (by omega)]
        exact ok_bind (L P pm_F 0 _ M1 (by omega) (by unfold pm_F; omega) hW1 h1 (fun i hi => by rw [m85]; exact h85 i hi)) (fun M' h' => ok_some (back M' h'))
      by_cases c1 : (upT s vi mi len f).1 < vi + smv P (hs (apA A) (vwA A) lim f len mi)
      · rw [if_pos c1]
        exact ok_be rfl (ok_neg (by omega) (ok_pos (by omega) go))
      · rw [if_neg c1]
        by_cases c2 : vi + smv P (hs (apA A) (vwA A) lim f len mi) = (upT s vi mi len f).1
        · rw [if_pos c2]
          by_cases c3 : (upT s vi mi len f).2.1 ≤ mi
          · rw [if_pos c3]
            exact ok_be rfl (ok_pos rfl (stop (Or.inr ⟨c2, c3⟩)))
          · rw [if_neg c3]
            exact ok_be rfl (ok_neg (by omega) (ok_pos (by omega) go))
        · rw [if_neg c2]
          exact ok_be rfl (ok_pos rfl (stop (Or.inl (by omega))))
end
