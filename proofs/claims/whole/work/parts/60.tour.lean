/-! TOURS: the call, both sides -/
section
variable {A : Nat → Int} {P : Nat} {lim : Int}
theorem x_f36 (hA : WF A) (hP : A 0 = P) (y1 : Int) {a : Nat} (ha : a < P) : ∀ (t n c : Nat) (M : pm_M), c + t = P → t < n → CX 24 36 1 A M → ok (f_Walk_find_L36 n y1 a c M) (fun z => ∃ M', z = (y1, (a : Int), M') ∧ (∀ b, c ≤ b → b < P → M' 84 (8 * a + b) = apA A a b) ∧ (∀ i, (i < 8 * a + c ∨ 8 * a + 8 ≤ i) → M' 84 i = M 84 i) ∧ fr [84] M M') := by
  have w0 := hA.1
  intro t
  induction t with
  | zero =>
    intro n c M hc hn hC
    cases n with
    | zero => omega
    | succ n =>
      unfold f_Walk_find_L36 f_Told_plinths
      rw [hC.1.1.1, hP]
      exact ok_be rfl (ok_pos (by omega) (ok_some ⟨M, rfl, fun b h1 h2 => by omega, fun _ _ => rfl, fr_rf _ _⟩))
  | succ t ih =>
    intro n c M hc hn hC
    cases n with
    | zero => omega
    | succ n =>
      unfold f_Walk_find_L36 f_Told_plinths
      rw [hC.1.1.1, hP]
      refine ok_be rfl (ok_neg (by omega) (ok_be (x_mi hA.xy (fun p hp => ⟨(hC.1.2.1 p hp).1, (hC.1.2.1 p hp).2.1⟩) (by omega) (by omega)) ?_))
      rw [i_ml_eq (by omega), i_ad_eq (a := (a : Int) * 8) (by omega), i_ad_eq (a := (c : Int)) (by omega), show ((a : Int) * 8 + (c : Int)).toNat = 8 * a + c by omega, a_mi_ap hA (by omega) (by omega)]
      refine ok_pos (by omega) (ok_bd ?_)
      have f1 : fr [84] M (pm_ms M 84 (8 * a + c) (apA A a c)) := fr_ms (by decide)
      refine ok_mono (ih n (c + 1) _ (by omega) (by omega) (CX_fr f1 (by decide) hC)) ?_
      rintro z ⟨M', z1, z2, z3, z4⟩
      refine ⟨M', z1, fun b h1 h2 => ?_, fun i hi => ?_, fr_2 f1 z4⟩
      · by_cases e : b = c
        · rw [e, z3 (8 * a + c) (by omega), msc, aSn, if_pos rfl]
        · exact z2 b (by omega) h2
      · rw [z3 i (by omega), msc, aSn, if_neg (by omega)]
theorem x_f22 (hA : WF A) (hP : A 0 = P) (y1 : Int) : ∀ (t n a : Nat) (M : pm_M), a + t = P → t < n → CX 24 36 1 A M → (∀ a' b, a' < a → b < P → M 84 (8 * a' + b) = apA A a' b) → ok (f_Walk_find_L22 n y1 a M) (fun z => z.1 = y1 ∧ (∀ a' b, a' < P → b < P → z.2 84 (8 * a' + b) = apA A a' b) ∧ fr [84] M z.2) := by
  have w0 := hA.1
  intro t
  induction t with
  | zero =>
    intro n a M ha hn hC h84
    cases n with
    | zero => omega
    | succ n =>
      unfold f_Walk_find_L22 f_Told_plinths
      rw [hC.1.1.1, hP]
      exact ok_be rfl (ok_pos (by omega) (ok_some ⟨rfl, fun a' b h1 h2 => h84 a' b (by omega) h2, fr_rf _ _⟩))
  | succ t ih =>
    intro n a M ha hn hC h84
    cases n with
    | zero => omega
    | succ n =>
      unfold f_Walk_find_L22 f_Told_plinths
      rw [hC.1.1.1, hP]
      refine ok_be rfl (ok_neg (by omega) (ok_bind (x_f36 hA hP y1 (by omega) P pm_F 0 M (by omega) (by unfold pm_F; omega) hC) ?_))
      rintro _ ⟨M1, rfl, z2, z3, z4⟩
      dsimp only
      rw [i_ad_eq (by omega)]
      refine ok_mono (ih n (a + 1) M1 (by omega) (by omega) (CX_fr z4 (by decide) hC) (fun a' b h1 h2 => ?_)) (fun z hz => ⟨hz.1, hz.2.1, fr_2 z4 hz.2.2⟩)
      by_cases e : a' = a
      · rw [e]; exact z2 b (by omega) h2
      · rw [z3 (8 * a' + b) (by omega)]; exact h84 a' b (by omega) h2
/-- the tours from a plinth -/
def trS (A : Nat → Int) (P : Nat) (lim : Int) (p : Nat) : tS := dfs (apA A) (vwA A) lim P 7 1 (fun _ => p) 0 (vwA A p) (-1, 0, 0, fun _ => 0)
theorem x_tfind {M : pm_M} (hA : WF A) (hC : CX 24 36 1 A M) (hP : A 0 = P) (hlim : 0 ≤ lim ∧ lim ≤ 999) {p : Nat} (hp : p < P) : ok (f_Walk_find p lim M) (fun M' => SXt (trS A P lim p) M' ∧ fr [83, 84, 85, 86] M M') := by
  have w0 := hA.1
  have hv := vwA_0 hA p
  unfold f_Walk_find
  refine ok_bd (ok_bd (ok_bd (ok_bd ?_)))
  generalize hM1 : pm_ms (pm_ms (pm_ms (pm_ms M 83 4 lim) 83 5 0) 83 6 (-1)) 83 7 0 = M1
  have f1 : fr [83] M M1 := by rw [← hM1]; exact fr_2 (fr_2 (fr_2 (fr_ms (by decide)) (fr_ms (by decide))) (fr_ms (by decide))) (fr_ms (by decide))
  have c83 : M1 83 = aS (aS (aS (aS (M 83) 4 lim) 5 0) 6 (-1)) 7 0 := by rw [← hM1, msc, msc, msc, msc]
  refine ok_bind (x_f22 hA hP p P pm_F 0 M1 (by omega) (by unfold pm_F; omega) (CX_fr f1 (by decide) hC) (fun a' b h _ => by omega)) ?_
  rintro ⟨y, M2⟩ ⟨z1, z2, z3⟩
  dsimp only at z1 z2 z3 ⊢
  subst z1
  refine ok_bd ?_
  have f3 : fr [85] M2 (pm_ms M2 85 0 (p : Int)) := fr_ms (by decide)
  have f13 : fr [83, 84, 85] M (pm_ms M2 85 0 (p : Int)) := fr_tr (fr_tr f1 z3 (S := [83, 84, 85]) (by decide) (by decide)) f3 (by decide) (by decide)
  have hC3 := CX_fr f13 (by decide) hC
  have m83 : (pm_ms M2 85 0 (p : Int)) 83 = M1 83 := by rw [f3 83 (by decide), z3 83 (by decide)]
  refine ok_be (x_view hC3 (by omega)) ?_
  have hW : WK A P lim (pm_ms M2 85 0 (p : Int)) := ⟨hC3, by rw [m83, c83, aSn, if_neg (by omega), aSn, if_neg (by omega), aSn, if_neg (by omega), aSn, if_pos rfl], fun a b ha hb => by rw [f3 84 (by decide)]; exact z2 a b ha hb⟩
  have hS : SXt (-1, 0, 0, fun _ => 0) (pm_ms M2 85 0 (p : Int)) := ⟨by rw [m83, c83, aSn, if_neg (by omega), aSn, if_pos rfl], by rw [m83, c83, aSn, if_pos rfl], by rw [m83, c83, aSn, if_neg (by omega), aSn, if_neg (by omega), aSn, if_pos rfl]; rfl, by show (0 : Nat) ≤ 8; omega, fun i hi => absurd hi (Nat.not_lt_zero i)⟩
  have hsl : i_sl 1 (p : Int) = ((2 ^ p : Nat) : Int) := i_sl_n p (by omega)
  rw [hsl]
  have := x_goOn hA hP hlim 7 20 1 (fun _ => p) 0 (vwA A p) (-1, 0, 0, fun _ => 0) (2 ^ p) _ (by omega) (by omega) (by omega) hW hS (fun i hi => by rw [show i = 0 by omega, msc, aSn, if_pos rfl]) hp (Nat.pow_lt_pow_right (n := 8) (by omega) (by omega)) (fun q hq => by rw [Nat.testBit_two_pow]; simp [onw]) (by omega) (by omega)
  rw [show ((1 : Nat) : Int) = 1 from rfl] at this
  refine ok_bind this ?_
  rintro M4 ⟨r1, r2, r3, r4⟩
  exact ok_some ⟨r1, fr_tr f13 r4 (by decide) (by decide)⟩
theorem q_tours {M : pm_M} (hA : WF A) (hM : M 88 = A) (hP : A 0 = P) (hlim : 0 ≤ lim ∧ lim ≤ 999) {p : Nat} (hp : p < P) : ok (f_Q_tours p lim M) (fun M' => SQt (trS A P lim p) M' ∧ s87 M M' ∧ fr [87, 115, 116] M M') := by
  have w0 := hA.1
  have hv := vwA_0 hA p
  unfold f_Q_tours
  refine ok_bd (ok_bd ?_)
  generalize hM1 : pm_ms (pm_ms M 115 0 (p : Int)) 87 50 (-1) = M1
  have f1 : fr [87, 115] M M1 := by rw [← hM1]; exact fr_2 (fr_ms (by decide)) (fr_ms (by decide))
  have m115 : ∀ i, i < 1 → M1 115 i = ((fun _ => p) i : Nat) := fun i hi => by rw [← hM1, msn, if_neg (by omega), msc, aSn, if_pos (by omega)]
  have m87 : M1 87 = aS (M 87) 50 (-1) := by rw [← hM1, msc, pm_ms_ne (by omega)]
  refine ok_bind (q_asks (N := 1) hA (by omega) (fun i _ => by omega) (by rw [f1 88 (by decide)]; exact hM) m115) ?_
  rintro M2 ⟨a47, a48, aj, af⟩
  have e47 : wv A (fun _ => p) 1 = vwA A p := by unfold wv; rw [smv, smv, Int.zero_add]
  have e48 : wm A (fun _ => p) 1 = 0 := rfl
  rw [e47] at a47
  rw [e48] at a48
  refine ok_bind (q_keeps (s := (-1, 0, 0, fun _ => 0)) (f := fun _ => p) (N := 1) (by omega) (fun i hi => by rw [af 115 (by decide)]; exact m115 i hi) a47 a48 (Or.inr ⟨by rw [aj 50 (by omega) (by omega), m87, aSn, if_pos rfl], by show (-1 : Int) < _; omega⟩)) ?_
  rintro M3 ⟨k1, k2, k3⟩
  refine ok_bd ?_
  have f4 : fr [115] M3 (pm_ms M3 115 1 (-1)) := fr_ms (by decide)
  have f14 : fr [87, 115, 116] M (pm_ms M3 115 1 (-1)) := fr_tr (fr_tr (fr_tr f1 af (S := [87, 115, 116]) (by decide) (by decide)) k3 (S := [87, 115, 116]) (by decide) (by decide)) f4 (by decide) (by decide)
  have hcb := cst_b (P := P) (by omega)
  obtain ⟨n', M5, g1, g2, g3, g4, g5, g6⟩ := q_loop hA hP hlim 6 P 1 pm_F 0 (fun _ => p) _ (pm_ms M3 115 1 (-1)) (by omega) (by omega) (by omega) (by unfold pm_F; omega) (by rw [f14 88 (by decide)]; exact hM) (fun i hi => by rw [msc, aSn, if_neg (by omega), k3 115 (by decide), af 115 (by decide)]; exact m115 i hi) (by rw [msc, aSn, if_pos rfl]; rfl) (fun i _ => by omega) (SQt_fr k1 (fun j _ _ => by rw [f4 87 (by decide)]) (f4 116 (by decide)))
  rw [show ((1 : Nat) : Int) = 1 from rfl, show (1 : Int) - 1 = 0 from rfl] at g1
  rw [g1]
  unfold pm_F at g2
  obtain ⟨n, rfl⟩ : ∃ n, n' = n + 1 := ⟨n' - 1, by omega⟩
  have e0 : f_Q_tours_L31 (n + 1) lim 0 M5 = some M5 := by rw [f_Q_tours_L31, if_pos (by omega)]
  rw [e0]
  refine ok_be rfl (ok_some ⟨?_, fun j hj => ?_, fr_2 f14 g6⟩)
  · rw [e47, e48] at g4
    exact g4
  · rw [g5 j hj, f4 87 (by decide), k2 j hj, aj j (by omega) (by omega), m87, aSn, if_neg (by omega)]
theorem st_tour {M : pm_M} (hS : St M) (x l w : Int) (hw : pm_i32 w) : ok (f_X_tour x l w M) (fun y => ok (f_Q_tour x l w y.2) (fun z => EN M y z)) := by
  obtain ⟨hA, hC⟩ := id hS
  have w0 := hA.1
  have hwi := pm_i32_iff.mp hw
  have no : ¬ ((0 ≤ x ∧ x < M 88 0) ∧ (0 ≤ l ∧ l ≤ 999) ∧ 0 ≤ w) → ok (f_Q_tour x l w M) (fun z => EN M (-1, M) z) := by
    intro hn
    have r : ok (some ((-1 : Int), M)) (fun z => EN M (-1, M) z) := ok_some ⟨rfl, hS, rfl, Kp_rf M⟩
    unfold f_Q_tour
    refine ok_pl (q_isPl rfl hA.1 x) (fun h1 => ok_neg (by omega) ?_) (fun _ => ok_pos rfl r)
    refine ok_dc (f_Q_in_eq l 0 999 M) (fun h2 => ok_neg (by omega) ?_) (fun _ => ok_pos rfl r)
    exact ok_ite (fun h3 => absurd ⟨h1, h2, h3⟩ hn) (fun _ => r)
  unfold f_X_tour
  refine ok_pl (x_isPl hC.1.1.1 x) (fun h1 => ok_neg (by omega) ?_) (fun h1 => ok_pos rfl (ok_some (no (fun z => h1 z.1))))
  refine ok_ite (fun h2 => ok_some (no (by omega))) (fun h2 => ?_)
  refine ok_ite (fun h3 => ok_some (no (by omega))) (fun h3 => ?_)
  refine ok_ite (fun h4 => ?_) (fun h4 => ok_some (no (by omega)))
  obtain ⟨p, ep⟩ : ∃ p : Nat, x = p := ⟨x.toNat, by omega⟩
  obtain ⟨P, eP⟩ : ∃ P : Nat, M 88 0 = P := ⟨(M 88 0).toNat, by omega⟩
  subst ep
  refine ok_bind (x_tfind (P := P) (lim := l) hA hC eP (by omega) (by omega)) ?_
  rintro M1 ⟨⟨s6, s7, s5, s8, s86⟩, fX⟩
  have key : ∀ v : Int, (w = 0 → v = (trS (M 88) P l p).1) → (w = 1 → v = (trS (M 88) P l p).2.1) → (2 ≤ w → v = if w - 2 < ((trS (M 88) P l p).2.2.1 : Int) then ((trS (M 88) P l p).2.2.2 (w - 2).toNat : Int) else -1) → ok (f_Q_tour p l w M1) (fun z => EN M (v, M1) z) := by
    intro v v0 v1 v2
    have e88 : M1 88 = M 88 := fX 88 (by decide)
    unfold f_Q_tour
    refine ok_pl (q_isPl (congrFun e88 0) hA.1 _) (fun _ => ok_neg (by omega) ?_) (fun z => absurd h1 z)
    refine ok_dc (f_Q_in_eq l 0 999 M1) (fun _ => ok_neg (by omega) ?_) (fun z => absurd ⟨by omega, by omega⟩ z)
    refine ok_pos h4 (ok_bind (q_tours (P := P) (lim := l) hA e88 eP (by omega) (by omega)) ?_)
    rintro M2 ⟨⟨t50, t51, t49, t8, t116⟩, ts, fQ⟩
    have fin : ∀ u : Int, v = u → EN M (v, M1) (u, M2) := by
      intro u hu
      have f2 : fr [83, 84, 85, 86, 87, 115, 116] M M2 := fr_tr fX fQ (by decide) (by decide)
      have m88 : M2 88 = M 88 := f2 88 (by decide)
      refine ⟨hu, ⟨by show WF (M2 88); rw [m88]; exact hA, ?_⟩, by show M2 88 2 = _; rw [m88], ⟨fun c hc => f2 c ?_, ?_, ?_, ?_, by show M2 77 7 = _; rw [f2 77 (by decide)]⟩⟩
      · show CX 24 36 1 (M2 88) M2
        rw [m88]; exact CX_fr f2 (by decide) hC
      · have : ∀ c ∈ KL, c ∉ [83, 84, 85, 86, 87, 115, 116] := by decide
        exact this c hc
      · show M2 87 3 = _; rw [ts 3 (by omega), fX 87 (by decide)]
      · show M2 87 4 = _; rw [ts 4 (by omega), fX 87 (by decide)]
      · show M2 87 5 = _; rw [ts 5 (by omega), fX 87 (by decide)]
    refine ok_ite (fun c2 => ?_) (fun c2 => ok_ite (fun c0 => ok_some (fin _ ?_)) (fun c0 => ok_some (fin _ ?_)))
    · rw [i_sb_eq (by omega), t49]
      have e2 := v2 c2
      refine ok_ite (fun c3 => ok_some (fin _ ?_)) (fun c3 => ok_pos (by omega) (ok_some (fin _ ?_)))
      · rw [if_neg (by omega)] at e2; exact e2
      · rw [if_pos (by omega)] at e2
        rw [t116 _ (by omega)]; exact e2
    · rw [v0 c0, t50]
    · rw [v1 (by omega), t51]
  unfold f_Walk_foundView f_Walk_foundMiles f_Walk_foundPlinth
  refine ok_ite (fun c0 => ok_be rfl (ok_some (key _ (fun _ => s6) (fun z => by omega) (fun z => by omega)))) (fun c0 => ?_)
  refine ok_ite (fun c1 => ok_be rfl (ok_some (key _ (fun z => by omega) (fun _ => s7) (fun z => by omega)))) (fun c1 => ?_)
  rw [i_sb_eq (by omega), s5, if_neg (by omega)]
  by_cases c2 : ((trS (M 88) P l p).2.2.1 : Int) ≤ w - 2
  · rw [if_pos c2]
    exact ok_be rfl (ok_some (key _ (fun z => by omega) (fun z => by omega) (fun _ => by rw [if_neg (by omega)])))
  · rw [if_neg c2, if_pos (by omega), s86 _ (by omega)]
    exact ok_be rfl (ok_some (key _ (fun z => by omega) (fun z => by omega) (fun _ => by rw [if_pos (by omega)])))
end
