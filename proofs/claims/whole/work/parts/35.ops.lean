/-! STEPS of both sides -/
def St (M : pm_M) : Prop := WF (M 88) ∧ CX 24 36 1 (M 88) M
def KL : List Nat := [3, 4, 5, 6, 7, 8, 9, 10, 11, 12, 13, 15, 16, 17, 37, 38, 40, 41, 42, 43, 44, 45, 46, 47, 48, 49, 50, 51, 52, 53, 54, 55, 56, 57, 58, 59, 60, 61, 62, 63, 66, 78, 79, 89, 90, 91, 92, 93, 94, 95, 96, 97]
/-- what other parts of the picture look at stays -/
def Kp (M M' : pm_M) : Prop := (∀ c ∈ KL, M' c = M c) ∧ M' 87 3 = M 87 3 ∧ M' 87 4 = M 87 4 ∧ M' 87 5 = M 87 5 ∧ M' 77 7 = M 77 7
theorem Kp_rf (M : pm_M) : Kp M M := ⟨fun _ _ => rfl, rfl, rfl, rfl, rfl⟩
theorem Kp_tr {M M1 M2 : pm_M} (h1 : Kp M M1) (h2 : Kp M1 M2) : Kp M M2 := ⟨fun c hc => (h2.1 c hc).trans (h1.1 c hc), h2.2.1.trans h1.2.1, h2.2.2.1.trans h1.2.2.1, h2.2.2.2.1.trans h1.2.2.2.1, h2.2.2.2.2.trans h1.2.2.2.2⟩
theorem Kp_fr {S : List Nat} {M M' : pm_M} (h : fr S M M') (hS : ∀ c ∈ 87 :: 77 :: KL, c ∉ S) : Kp M M' := by
  have a1 := h 87 (hS 87 (by decide))
  have a2 := h 77 (hS 77 (by decide))
  exact ⟨fun c hc => h c (hS c (List.mem_cons_of_mem _ (List.mem_cons_of_mem _ hc))), congrFun a1 3, congrFun a1 4, congrFun a1 5, congrFun a2 7⟩
abbrev SB (S : List Nat) : Prop := (∀ c ∈ 87 :: 77 :: KL, c ∉ S)
/-- the class's side of a step: refused, or done -/
def XP (c : Prop) (v0 v1 : Int) (A' : Nat → Int) (S : List Nat) (M : pm_M) (y : Int × pm_M) : Prop := (¬ c ∧ y.1 = v0 ∧ y.2 = M) ∨ (c ∧ y.1 = v1 ∧ CX 24 36 1 A' y.2 ∧ fr S M y.2)
def QP (c : Prop) (v0 v1 : Int) (A' : Nat → Int) (S : List Nat) (M : pm_M) (y : Int × pm_M) : Prop := (¬ c ∧ y.1 = v0 ∧ y.2 = M) ∨ (c ∧ y.1 = v1 ∧ y.2 88 = A' ∧ fr S M y.2)
theorem XP_no {c : Prop} {v0 v1 : Int} {A' : Nat → Int} {S : List Nat} {M : pm_M} (h : ¬ c) : XP c v0 v1 A' S M (v0, M) := Or.inl ⟨h, rfl, rfl⟩
theorem QP_no {c : Prop} {v0 v1 : Int} {A' : Nat → Int} {S : List Nat} {M : pm_M} (h : ¬ c) : QP c v0 v1 A' S M (v0, M) := Or.inl ⟨h, rfl, rfl⟩
theorem CX_congr {A : Nat → Int} {M M' : pm_M} (h : ∀ c, c < 87 → M' c = M c) (H : CX 24 36 1 A M) : CX 24 36 1 A M' := ⟨rT_congr (fun k hk => h _ (by omega)) H.1, rR_congr (h _ (by omega)) H.2.1, rS_congr (h _ (by omega)) (h _ (by omega)) H.2.2⟩
theorem fr_lo {S : List Nat} {M M' : pm_M} (h : fr S M M') (hS : ∀ c ∈ S, 87 ≤ c) : ∀ c, c < 87 → M' c = M c := fun c hc => h c (fun z => by have := hS c z; omega)
/-- both sides of a step together -/
theorem st_comb {c : Prop} {v0 v1 : Int} {A' : Nat → Int} {SX SQ : List Nat} {M : pm_M} {y : Int × pm_M} {fQ : pm_M → Option (Int × pm_M)} (hS : St M) (hX : XP c v0 v1 A' SX M y) (hQ : ∀ M1, M1 88 = M 88 → ok (fQ M1) (QP c v0 v1 A' SQ M1)) (hW : c → WF A' ∧ A' 2 = M 88 2) (sx : SB SX ∧ 88 ∉ SX) (sq : SB SQ ∧ ∀ c ∈ SQ, 87 ≤ c) : ok (fQ y.2) (fun z => y.1 = z.1 ∧ St z.2 ∧ z.2 88 2 = M 88 2 ∧ Kp M z.2) := by
  have e88 : y.2 88 = M 88 := by
    rcases hX with ⟨_, _, h⟩ | ⟨_, _, _, h⟩
    · rw [h]
    · exact h 88 sx.2
  refine ok_mono (hQ y.2 e88) ?_
  intro z hz
  rcases hX with ⟨h1, h2, h3⟩ | ⟨h1, h2, h3, h4⟩
  · rcases hz with ⟨_, z2, z3⟩ | ⟨z1, _⟩
    · rw [h2, z2, z3, h3]; exact ⟨rfl, hS, rfl, Kp_rf _⟩
    · exact absurd z1 h1
  · rcases hz with ⟨z1, _⟩ | ⟨_, z2, z3, z4⟩
    · exact absurd h1 z1
    · refine ⟨by rw [h2, z2], ⟨by rw [z3]; exact (hW h1).1, ?_⟩, by rw [z3]; exact (hW h1).2, Kp_tr (Kp_fr h4 sx.1) (Kp_fr z4 sq.1)⟩
      rw [z3]
      exact CX_congr (fr_lo z4 sq.2) h3
section
variable {A : Nat → Int} {M : pm_M}
theorem kS_0 (A : Nat → Int) : kS A 0 = A 0 := kS_lo (by omega) (by omega)
theorem kS_1 (A : Nat → Int) : kS A 1 = A 1 := kS_lo (by omega) (by omega)
theorem kS_2 (A : Nat → Int) : kS A 2 = A 2 := kS_lo (by omega) (by omega)
theorem a_row_rU {A r : Nat → Int} {i : Nat} (h : i < 186) : a_row (rU A r) i = r i := rU_i h
theorem kW {A r : Nat → Int} (hA : WF A) (h : rW (A 0) (A 1) r) : WF (rU (kS A) r) ∧ rU (kS A) r 2 = A 2 := ⟨WF_rU (by rw [kS_0, kS_1]; exact h) (WF_kS hA), by rw [rU_o (by omega), kS_2]⟩
theorem x_put (hA : WF A) (hC : CX 24 36 1 A M) (h p : Int) : ok (f_X_put h p M) (XP (a_cp A h p) 0 1 (rU (kS A) (aS (a_row A) p.toNat h)) [1, 2, 36] M) := by
  have w0 := hA.1
  unfold f_X_put
  refine ok_bind (x_canPut hA hC h p) (fun y hy => ?_)
  rcases hy with ⟨hc, rfl⟩ | ⟨hc, rfl⟩
  · refine ok_neg (by omega) (ok_bind (x_keep hA hC) (fun M1 h1 => ?_))
    unfold f_Moment_stand
    have hp := hc.2.1
    refine ok_bind (ok_pos (by omega) (ok_bd (ok_some rfl))) (fun M2 h2 => ok_some (Or.inr ⟨hc, rfl, ?_, ?_⟩))
    · dsimp only; rw [← h2]
      refine x_row (by rw [kS_0]; omega) h1.1 (fun i hi => ?_) (fr_ms (by decide))
      rw [msc, aSn, aSn]
      by_cases e : i = p.toNat
      · rw [if_pos e, if_pos e]
      · rw [if_neg e, if_neg e, h1.1.2.1 i hi]; exact kS_row A hi
    · dsimp only; rw [← h2]; exact fr_tr h1.2 (S2 := [36]) (fr_ms (by decide)) (by decide) (by decide)
  · exact ok_pos rfl (ok_some (XP_no hc))
theorem q_put (hA : WF A) (hM : M 88 = A) (h p : Int) : ok (f_Q_put h p M) (QP (a_cp A h p) 0 1 (rU (kS A) (aS (a_row A) p.toNat h)) [88] M) := by
  have w0 := hA.1
  unfold f_Q_put
  refine ok_bind (q_canPut hA hM h p) (fun y hy => ?_)
  rcases hy with ⟨hc, rfl⟩ | ⟨hc, rfl⟩
  · refine ok_neg (by omega) (ok_bind (q_keep hA.2.2.2.2.1 hM) (fun M1 h1 => ?_))
    have hp := hc.2.1
    rw [i_ad_eq (by omega), tn70 (by omega)]
    refine ok_pos (by omega) (ok_bd (ok_some (Or.inr ⟨hc, rfl, ?_, fr_2 h1.2 (fr_ms (by decide))⟩)))
    dsimp only; rw [msc, h1.1, ← rU_aS (by omega), kS_rU]
  · exact ok_pos rfl (ok_some (QP_no hc))
theorem w_put (hA : WF A) {h p : Int} (hc : a_cp A h p) : WF (rU (kS A) (aS (a_row A) p.toNat h)) ∧ rU (kS A) (aS (a_row A) p.toNat h) 2 = A 2 := by
  have w0 := hA.1
  have w1 := hA.2.1
  obtain ⟨h1, h2, h3, h4⟩ := hc
  refine kW hA ?_
  have := rW_put (h := h.toNat) (p := p.toNat) hA.2.2.2.2.2.2.2.2.2.1 (by omega) (by omega) (by omega) (fun q hq => by rw [show ((h.toNat : Nat) : Int) = h by omega]; exact pf_n.mp h4 q hq)
  rw [show ((h.toNat : Nat) : Int) = h by omega] at this
  exact this
theorem x_off (hA : WF A) (hC : CX 24 36 1 A M) (p : Int) : ok (f_X_off p M) (XP (a_co A p) (-1) (a_row A p.toNat) (rU (kS A) (aS (a_row A) p.toNat (-1))) [1, 2, 36] M) := by
  have w0 := hA.1
  unfold f_X_off
  refine ok_bind (x_canOff hA hC p) (fun y hy => ?_)
  rcases hy with ⟨hc, rfl⟩ | ⟨hc, rfl⟩
  · refine ok_neg (by omega) (ok_bind (x_keep hA hC) (fun M1 h1 => ?_))
    have hp := hc.1
    refine ok_be (x_headAt h1.1.2.1 (by omega)) ?_
    unfold f_Moment_stand
    refine ok_bind (ok_pos (by omega) (ok_bd (ok_some rfl))) (fun M2 h2 => ok_some (Or.inr ⟨hc, kS_row A (by omega), ?_, ?_⟩))
    · dsimp only; rw [← h2]
      refine x_row (by rw [kS_0]; omega) h1.1 (fun i hi => ?_) (fr_ms (by decide))
      rw [msc, aSn, aSn]
      by_cases e : i = p.toNat
      · rw [if_pos e, if_pos e]
      · rw [if_neg e, if_neg e, h1.1.2.1 i hi]; exact kS_row A hi
    · dsimp only; rw [← h2]; exact fr_tr h1.2 (S2 := [36]) (fr_ms (by decide)) (by decide) (by decide)
  · exact ok_pos rfl (ok_some (XP_no hc))
theorem q_off (hA : WF A) (hM : M 88 = A) (p : Int) : ok (f_Q_off p M) (QP (a_co A p) (-1) (a_row A p.toNat) (rU (kS A) (aS (a_row A) p.toNat (-1))) [88] M) := by
  have w0 := hA.1
  unfold f_Q_off
  refine ok_pl (q_isPl (congrFun hM 0) hA.1 p) (fun h1 => ok_neg (by omega) ?_) (fun h1 => ok_pos rfl (ok_some (QP_no (fun z => h1 z.1))))
  rw [i_ad_eq (by omega), tn70 (by omega), hM]
  refine ok_pos (by omega) ?_
  refine ok_ite (fun h2 => ok_some (QP_no (fun z => z.2 h2))) (fun h2 => ?_)
  refine ok_bind (q_keep hA.2.2.2.2.1 hM) (fun M1 h3 => ?_)
  refine ok_pos (by omega) (ok_bd (ok_pos (by omega) (ok_bd (ok_some (Or.inr ⟨⟨h1, h2⟩, ?_, ?_, fr_2 h3.2 (fr_ms (by decide))⟩)))))
  · dsimp only; rw [h3.1]; exact kS_row A (by omega)
  · dsimp only; rw [msc, h3.1, ← rU_aS (by omega), kS_rU]
theorem w_off (hA : WF A) {p : Int} (hc : 0 ≤ p ∧ p < A 0) : WF (rU (kS A) (aS (a_row A) p.toNat (-1))) ∧ rU (kS A) (aS (a_row A) p.toNat (-1)) 2 = A 2 := by
  have w0 := hA.1
  exact kW hA (rW_off hA.2.2.2.2.2.2.2.2.2.1 (by omega) hA.2.1.1)
def r_sw (r : Nat → Int) (p q : Nat) : Nat → Int := aS (aS r p (r q)) q (r p)
theorem x_swap (w : A 0 ≤ 8) (hC : CX 24 36 1 A M) {p q : Int} (hp : 0 ≤ p ∧ p < 8) (hq : 0 ≤ q ∧ q < 8) : ok (f_Moment_swap p q M) (fun M' => CX 24 36 1 (rU A (r_sw (a_row A) p.toNat q.toNat)) M' ∧ fr [36] M M') := by
  unfold f_Moment_swap
  refine ok_pos (by omega) (ok_pos (by omega) (ok_pos (by omega) (ok_bd (ok_pos (by omega) (ok_bd (ok_some ⟨?_, fr_2 (fr_ms (by decide)) (fr_ms (by decide))⟩))))))
  refine x_row w hC (fun i hi => ?_) (fr_2 (fr_ms (by decide)) (fr_ms (by decide)))
  rw [msc, msc, hC.2.1 _ (by omega), hC.2.1 _ (by omega)]
  unfold r_sw
  rw [aSn, aSn, aSn, aSn, hC.2.1 i hi]; rfl
theorem x_change (hA : WF A) (hC : CX 24 36 1 A M) (p q : Int) : ok (f_X_change p q M) (XP (a_cc A p q) 0 1 (rU (kS A) (r_sw (a_row A) p.toNat q.toNat)) [1, 2, 36] M) := by
  have w0 := hA.1
  unfold f_X_change
  refine ok_bind (x_canChange hA hC p q) (fun y hy => ?_)
  rcases hy with ⟨hc, rfl⟩ | ⟨hc, rfl⟩
  · refine ok_neg (by omega) (ok_bind (x_keep hA hC) (fun M1 h1 => ?_))
    have hp := hc.1
    have hq := hc.2.1
    refine ok_bind (x_swap (by rw [kS_0]; omega) h1.1 (p := p) (q := q) (by omega) (by omega)) (fun M2 h2 => ok_some (Or.inr ⟨hc, rfl, ?_, fr_tr h1.2 h2.2 (by decide) (by decide)⟩))
    have e1 : rU (kS A) (r_sw (a_row (kS A)) p.toNat q.toNat) = rU (kS A) (r_sw (a_row A) p.toNat q.toNat) := by
      funext k
      unfold rU
      by_cases hk : 70 ≤ k ∧ k < 256
      · rw [if_pos hk, if_pos hk]
        unfold r_sw
        rw [aSn, aSn, aSn, aSn, kS_row A (by omega), kS_row A (by omega), kS_row A (by omega)]
      · rw [if_neg hk, if_neg hk]
    rw [← e1]; exact h2.1
  · exact ok_pos rfl (ok_some (XP_no hc))
theorem q_changes (hM : M 88 = A) {p q : Int} (hp : 0 ≤ p ∧ p < 8) (hq : 0 ≤ q ∧ q < 8) : ok (f_Q_changes p q M) (fun M' => M' 88 = rU A (r_sw (a_row A) p.toNat q.toNat) ∧ fr [88] M M') := by
  unfold f_Q_changes
  rw [i_ad_eq (a := 70) (b := p) (by omega), i_ad_eq (a := 70) (b := q) (by omega), tn70 (p := p) (by omega), tn70 (p := q) (by omega), hM]
  refine ok_pos (by omega) (ok_bd (ok_pos (by omega) (ok_pos (by omega) (ok_bd (ok_pos (by omega) (ok_bd (ok_some ⟨?_, fr_2 (fr_ms (by decide)) (fr_ms (by decide))⟩)))))))
  rw [msc, msc, hM]
  unfold r_sw
  rw [← rU_aS (by omega), ← rU_aS (by omega), rU_self]; rfl
theorem rU_kS_row (A r : Nat → Int) : rU (kS A) r = rU (kS A) (fun i => r i) := rfl
theorem q_change (hA : WF A) (hM : M 88 = A) (p q : Int) : ok (f_Q_change p q M) (QP (a_cc A p q) 0 1 (rU (kS A) (r_sw (a_row A) p.toNat q.toNat)) [88] M) := by
  have w0 := hA.1
  unfold f_Q_change
  refine ok_bind (q_canChange hA hM p q) (fun y hy => ?_)
  rcases hy with ⟨hc, rfl⟩ | ⟨hc, rfl⟩
  · refine ok_neg (by omega) (ok_bind (q_keep hA.2.2.2.2.1 hM) (fun M1 h1 => ?_))
    have hp := hc.1
    have hq := hc.2.1
    refine ok_bind (q_changes h1.1 (p := p) (q := q) (by omega) (by omega)) (fun M2 h2 => ok_some (Or.inr ⟨hc, rfl, ?_, fr_2 h1.2 h2.2⟩))
    dsimp only; rw [h2.1]
    funext k
    unfold rU
    by_cases hk : 70 ≤ k ∧ k < 256
    · rw [if_pos hk, if_pos hk]
      unfold r_sw
      rw [aSn, aSn, aSn, aSn, kS_row A (by omega), kS_row A (by omega), kS_row A (by omega)]
    · rw [if_neg hk, if_neg hk]
  · exact ok_pos rfl (ok_some (QP_no hc))
theorem w_change (hA : WF A) {p q : Int} (hc : a_cc A p q) : WF (rU (kS A) (r_sw (a_row A) p.toNat q.toNat)) ∧ rU (kS A) (r_sw (a_row A) p.toNat q.toNat) 2 = A 2 := by
  have w0 := hA.1
  obtain ⟨h1, h2, h3, h4⟩ := hc
  exact kW hA (rW_swap hA.2.2.2.2.2.2.2.2.2.1 (by omega) (by omega) (by omega) (by omega) (by omega))
def a_cv (A : Nat → Int) (p v : Int) : Prop := (0 ≤ p ∧ p < A 0) ∧ (-1 ≤ v ∧ v ≤ 11) ∧ a_row A (8 + p.toNat) ≠ v
theorem x_isName (v : Int) (M : pm_M) : f_X_isName v M = some (if -1 ≤ v ∧ v ≤ 11 then 1 else 0) := by
  unfold f_X_isName
  by_cases h1 : v < -1
  · rw [if_pos h1, if_neg (by omega)]
  · rw [if_neg h1]
    by_cases h2 : 12 ≤ v
    · rw [if_pos h2, if_neg (by omega)]
    · rw [if_neg h2, if_pos (by omega)]
theorem ok_dc {α : Type} {c : Prop} [Decidable c] {K : Int → Option α} {Q : α → Prop} {T : Option Int} (h : T = some (if c then 1 else 0)) (k1 : c → ok (K 1) Q) (k0 : ¬ c → ok (K 0) Q) : ok (T.bind K) Q := by
  refine ok_be h ?_
  by_cases h1 : c
  · rw [if_pos h1]; exact k1 h1
  · rw [if_neg h1]; exact k0 h1
theorem x_carve (hA : WF A) (hC : CX 24 36 1 A M) (p v : Int) : ok (f_X_carve p v M) (XP (a_cv A p v) 0 1 (rU (kS A) (aS (a_row A) (8 + p.toNat) v)) [1, 2, 36] M) := by
  have w0 := hA.1
  unfold f_X_carve
  refine ok_pl (x_isPl hC.1.1.1 p) (fun h1 => ok_neg (by omega) ?_) (fun h1 => ok_pos rfl (ok_some (XP_no (fun z => h1 z.1))))
  refine ok_dc (x_isName v M) (fun h2 => ok_neg (by omega) ?_) (fun h2 => ok_pos rfl (ok_some (XP_no (fun z => h2 z.2.1))))
  refine ok_be (x_nameAt hC.2.1 (by omega)) ?_
  refine ok_ite (fun h3 => ok_some (XP_no (fun z => z.2.2 h3))) (fun h3 => ?_)
  refine ok_bind (x_keep hA hC) (fun M1 k1 => ?_)
  unfold f_Moment_engrave
  rw [i_ad_eq (by omega), show ((8 : Int) + p).toNat = 8 + p.toNat by omega]
  refine ok_bind (ok_pos (by omega) (ok_bd (ok_some rfl))) (fun M2 k2 => ok_some (Or.inr ⟨⟨h1, h2, h3⟩, rfl, ?_, ?_⟩))
  · dsimp only; rw [← k2]
    refine x_row (by rw [kS_0]; omega) k1.1 (fun i hi => ?_) (fr_ms (by decide))
    rw [msc, aSn, aSn]
    by_cases e : i = 8 + p.toNat
    · rw [if_pos e, if_pos e]
    · rw [if_neg e, if_neg e, k1.1.2.1 i hi]; exact kS_row A hi
  · dsimp only; rw [← k2]; exact fr_tr k1.2 (S2 := [36]) (fr_ms (by decide)) (by decide) (by decide)
theorem q_carve (hA : WF A) (hM : M 88 = A) (p v : Int) : ok (f_Q_carve p v M) (QP (a_cv A p v) 0 1 (rU (kS A) (aS (a_row A) (8 + p.toNat) v)) [88] M) := by
  have w0 := hA.1
  unfold f_Q_carve
  refine ok_pl (q_isPl (congrFun hM 0) hA.1 p) (fun h1 => ok_neg (by omega) ?_) (fun h1 => ok_pos rfl (ok_some (QP_no (fun z => h1 z.1))))
  refine ok_dc (f_Q_in_eq v (-1) 11 M) (fun h2 => ok_neg (by omega) ?_) (fun h2 => ok_pos rfl (ok_some (QP_no (fun z => h2 z.2.1))))
  rw [i_ad_eq (by omega), show ((78 : Int) + p).toNat = 70 + (8 + p.toNat) by omega, hM]
  refine ok_pos (by omega) ?_
  refine ok_ite (fun h3 => ok_some (QP_no (fun z => z.2.2 h3))) (fun h3 => ?_)
  refine ok_bind (q_keep hA.2.2.2.2.1 hM) (fun M1 k1 => ?_)
  refine ok_pos (by omega) (ok_bd (ok_some (Or.inr ⟨⟨h1, h2, h3⟩, rfl, ?_, fr_2 k1.2 (fr_ms (by decide))⟩)))
  dsimp only; rw [msc, k1.1, ← rU_aS (by omega), kS_rU]
theorem w_carve (hA : WF A) {p v : Int} (hc : a_cv A p v) : WF (rU (kS A) (aS (a_row A) (8 + p.toNat) v)) ∧ rU (kS A) (aS (a_row A) (8 + p.toNat) v) 2 = A 2 := by
  have w0 := hA.1
  obtain ⟨h1, h2, h3⟩ := hc
  exact kW hA (rW_carve hA.2.2.2.2.2.2.2.2.2.1 (by omega) h2)
def a_py (A : Nat → Int) (h v : Int) : Prop := (0 ≤ h ∧ h < A 1) ∧ (1 ≤ v ∧ v ≤ 9999) ∧ v ≤ a_row A (16 + h.toNat) ∧ v ≤ a_row A 28
def r_py (r : Nat → Int) (h : Nat) (v : Int) : Nat → Int := aS (aS r (16 + h) (r (16 + h) - v)) 28 (r 28 - v)
theorem w_pay (hA : WF A) {h v : Int} (hc : a_py A h v) : WF (rU (kS A) (r_py (a_row A) h.toNat v)) ∧ rU (kS A) (r_py (a_row A) h.toNat v) 2 = A 2 := by
  have w1 := hA.2.1
  obtain ⟨h1, h2, h3, h4⟩ := hc
  exact kW hA (rW_pay hA.2.2.2.2.2.2.2.2.2.1 (by omega) (by omega) h3 h4)
theorem x_pay (hA : WF A) (hC : CX 24 36 1 A M) (h v : Int) : ok (f_X_pay h v M) (XP (a_py A h v) (-1) (a_row A (16 + h.toNat) - v) (rU (kS A) (r_py (a_row A) h.toNat v)) [1, 2, 36] M) := by
  have w0 := hA.1
  have w1 := hA.2.1
  unfold f_X_pay
  refine ok_pl (x_isHd hC.1.1.2.1 h) (fun h1 => ok_neg (by omega) ?_) (fun h1 => ok_pos rfl (ok_some (XP_no (fun z => h1 z.1))))
  have w4 := hA.2.2.2.2.2.2.2.2.2.1.2.2.2.1 h.toNat (by omega)
  have w5 := hA.2.2.2.2.2.2.2.2.2.1.2.2.2.2.1
  have w6 := hA.2.2.2.2.2.2.2.2.2.1.2.2.2.2.2.1
  refine ok_ite (fun h2 => ok_some (XP_no (fun z => by have := z.2.1; omega))) (fun h2 => ?_)
  refine ok_ite (fun h3 => ok_some (XP_no (fun z => by have := z.2.1; omega))) (fun h3 => ?_)
  refine ok_be (x_debt hC.2.1 (by omega)) ?_
  refine ok_ite (fun h4 => ok_some (XP_no (fun z => by have := z.2.2.1; omega))) (fun h4 => ?_)
  have e28 : M 36 28 = a_row A 28 := hC.2.1 28 (by omega)
  unfold f_Moment_purse
  refine ok_be (congrArg some e28) ?_
  refine ok_ite (fun h5 => ?_) (fun h5 => ok_some (XP_no (fun z => by have := z.2.2.2; omega)))
  refine ok_bind (x_keep hA hC) (fun M1 k1 => ?_)
  have r1 : ∀ i, i < 186 → M1 36 i = a_row A i := fun i hi => (k1.1.2.1 i hi).trans (kS_row A hi)
  unfold f_Moment_owe f_Moment_earn
  rw [i_ad_eq (a := 16) (by omega), show ((16 : Int) + h).toNat = 16 + h.toNat by omega, i_ng_eq (by omega), r1 _ (by omega), i_ad_eq (by omega)]
  refine ok_bind (ok_pos (by omega) (ok_pos (by omega) (ok_bd (ok_some rfl)))) (fun M2 k2 => ?_)
  have e2 : M2 36 28 = a_row A 28 := by rw [← k2, msc, aSn, if_neg (by omega), r1 _ (by omega)]
  rw [e2, i_ad_eq (by omega)]
  refine ok_bind (ok_bd (ok_some rfl)) (fun M3 k3 => ?_)
  have r3 : ∀ i, i < 186 → M3 36 i = r_py (a_row A) h.toNat v i := by
    intro i hi
    rw [← k3, msc, ← k2, msc, aSn, aSn]
    unfold r_py
    rw [aSn, aSn, r1 i hi]
    rfl
  have c3 : CX 24 36 1 (rU (kS A) (r_py (a_row A) h.toNat v)) M3 := x_row (by rw [kS_0]; omega) k1.1 r3 (by rw [← k3, ← k2]; exact fr_2 (fr_ms (by decide)) (fr_ms (by decide)))
  refine ok_be (x_debt c3.2.1 (by omega)) (ok_some (Or.inr ⟨⟨h1, by omega, by omega, by omega⟩, ?_, c3, ?_⟩))
  · dsimp only
    rw [a_row_rU (by omega)]
    unfold r_py
    rw [aSn, if_neg (by omega), aSn, if_pos rfl]
  · dsimp only; rw [← k3, ← k2]; exact fr_tr k1.2 (S2 := [36]) (fr_2 (fr_ms (by decide)) (fr_ms (by decide))) (by decide) (by decide)
theorem q_pay (hA : WF A) (hM : M 88 = A) (h v : Int) : ok (f_Q_pay h v M) (QP (a_py A h v) (-1) (a_row A (16 + h.toNat) - v) (rU (kS A) (r_py (a_row A) h.toNat v)) [88] M) := by
  have w0 := hA.1
  have w1 := hA.2.1
  unfold f_Q_pay
  refine ok_pl (q_isHd (congrFun hM 1) hA.2.1 h) (fun h1 => ok_neg (by omega) ?_) (fun h1 => ok_pos rfl (ok_some (QP_no (fun z => h1 z.1))))
  have w4 := hA.2.2.2.2.2.2.2.2.2.1.2.2.2.1 h.toNat (by omega)
  have w5 := hA.2.2.2.2.2.2.2.2.2.1.2.2.2.2.1
  have w6 := hA.2.2.2.2.2.2.2.2.2.1.2.2.2.2.2.1
  refine ok_dc (f_Q_in_eq v 1 9999 M) (fun h2 => ok_neg (by omega) ?_) (fun h2 => ok_pos rfl (ok_some (QP_no (fun z => h2 z.2.1))))
  rw [i_ad_eq (a := 86) (b := h) (by omega), show ((86 : Int) + h).toNat = 70 + (16 + h.toNat) by omega, hM]
  refine ok_pos (by omega) ?_
  refine ok_ite (fun h4 => ok_some (QP_no (fun z => by have := z.2.2.1; unfold a_row at this; omega))) (fun h4 => ?_)
  refine ok_ite (fun h5 => ?_) (fun h5 => ok_some (QP_no (fun z => h5 z.2.2.2)))
  refine ok_bind (q_keep hA.2.2.2.2.1 hM) (fun M1 k1 => ?_)
  have r1 : ∀ i, i < 186 → M1 88 (70 + i) = a_row A i := fun i hi => by rw [k1.1]; exact kS_row A hi
  rw [r1 _ (by omega), i_sb_eq (by omega)]
  refine ok_pos (by omega) (ok_pos (by omega) (ok_bd (ok_bd (ok_pos (by omega) (ok_some (Or.inr ⟨⟨h1, h2, by unfold a_row; omega, h5⟩, ?_, ?_, fr_2 k1.2 (fr_2 (fr_ms (by decide)) (fr_ms (by decide)))⟩))))))
  · dsimp only; rw [msc, msc, aSn, if_neg (by omega), aSn, if_pos rfl]
  · dsimp only; rw [msc, msc, aSn, if_neg (by omega), show M1 88 98 = a_row A 28 from r1 28 (by omega), i_sb_eq (by omega), k1.1]
    unfold r_py
    rw [← rU_aS (by omega), ← rU_aS (by omega), kS_rU]
end
