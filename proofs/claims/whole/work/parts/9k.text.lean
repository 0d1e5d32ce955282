/-! TEXT: the call, both sides -/
section
variable {M : pm_M} {A : Nat → Int}
/-- cells that a text call leaves -/
def KI : List Nat := [3, 4, 5, 6, 7, 8, 9, 10, 11, 12, 13, 15, 16, 17, 77, 78, 79, 89]
def TXO (M : pm_M) (y z : Int × pm_M) : Prop := y.1 = z.1 ∧ St z.2 ∧ TP z.2 ∧ TF z.2 ∧ TXS z.2 (z.2 88 2) ∧ M 88 2 ≤ z.2 88 2 ∧ ∀ c ∈ KI, z.2 c = M c
theorem CX_tx (hA : WF A) (hC : CX 24 36 1 A M) {M' : pm_M} (h24 : M' 24 = aS (M 24) 13 (A 2 + 1)) (hc : ∀ c ∈ [1, 2, 25, 26, 27, 28, 29, 30, 31, 32, 33, 34, 36], M' c = M c) : CX 24 36 1 (aS A 2 (A 2 + 1)) M' := by
  have e : ∀ k, k ≠ 2 → aS A 2 (A 2 + 1) k = A k := fun k h => by rw [aSn, if_neg h]
  refine ⟨?_, rR_B (fun k _ _ => e k (by omega)) (rR_congr (hc 36 (by decide)) hC.2.1), rS_B hA.2.2.2.2.1 (e 4 (by omega)) (fun k _ _ => e k (by omega)) (rS_congr (hc 1 (by decide)) (hc 2 (by decide)) hC.2.2)⟩
  obtain ⟨⟨t1, t2, t3, t4, t5⟩, t6, t7, t8, t9⟩ := hC.1
  have c0 : ∀ k, 1 ≤ k → k ≤ 10 → M' (24 + k) = M (24 + k) := fun k h1 h2 => hc (24 + k) (by
    have : k = 1 ∨ k = 2 ∨ k = 3 ∨ k = 4 ∨ k = 5 ∨ k = 6 ∨ k = 7 ∨ k = 8 ∨ k = 9 ∨ k = 10 := by omega
    rcases this with rfl | rfl | rfl | rfl | rfl | rfl | rfl | rfl | rfl | rfl <;> decide)
  refine ⟨?_, fun p hp => ?_, fun p hp => ?_, fun p hp => ?_, fun p hp => ?_⟩
  · have g : ∀ k, k ≠ 13 → aS (M 24) 13 (A 2 + 1) k = M 24 k := fun k h => by rw [aSn, if_neg h]
    have g1 : aS (M 24) 13 (A 2 + 1) 13 = A 2 + 1 := by rw [aSn, if_pos rfl]
    have g2 : aS A 2 (A 2 + 1) 2 = A 2 + 1 := by rw [aSn, if_pos rfl]
    rw [h24, g 10 (by omega), g 11 (by omega), g 12 (by omega), g1, g 14 (by omega), e 0 (by omega), e 1 (by omega), e 5 (by omega), e 3 (by omega), g2]
    exact ⟨t1, t2, t3, rfl, t5⟩
  · rw [c0 1 (by omega) (by omega), c0 2 (by omega) (by omega), c0 3 (by omega) (by omega), c0 4 (by omega) (by omega), e (10 + 4 * p) (by omega), e (11 + 4 * p) (by omega), e (12 + 4 * p) (by omega), e (13 + 4 * p) (by omega)]
    exact t6 p hp
  · rw [e 0 (by omega)] at hp ⊢
    rw [c0 5 (by omega) (by omega), t7 p hp, a_cl_congr (by have := hA.1; omega) (fun k _ _ => e k (by omega)) _ (by have := hA.1; omega)]
  · rw [c0 6 (by omega) (by omega), c0 7 (by omega) (by omega), e (42 + 2 * p) (by omega), e (43 + 2 * p) (by omega)]; exact t8 p hp
  · rw [c0 8 (by omega) (by omega), c0 9 (by omega) (by omega), c0 10 (by omega) (by omega), e (256 + 3 * p) (by omega), e (257 + 3 * p) (by omega), e (258 + 3 * p) (by omega)]; exact t9 p hp
theorem WF_tx (hA : WF A) (h : A 2 < 4) : WF (aS A 2 (A 2 + 1)) := by
  obtain ⟨w0, w1, w2, w3, w4, w5, w6, w7, w8, w9, w10⟩ := id hA
  have e : ∀ k, k ≠ 2 → aS A 2 (A 2 + 1) k = A k := fun k h => by rw [aSn, if_neg h]
  have e2 : aS A 2 (A 2 + 1) 2 = A 2 + 1 := by rw [aSn, if_pos rfl]
  refine WF_T hA (fun k hk => e k (by omega)) (by rw [e 0 (by omega)]; omega) (by rw [e 1 (by omega)]; omega) (by rw [e2]; omega) (by rw [e2, e 3 (by omega)]; omega) (by rw [e 5 (by omega)]; exact w5) (fun p hp => ?_) (fun p hp => ?_) (fun p hp => ?_)
  · rw [e (10 + 4 * p) (by omega), e (11 + 4 * p) (by omega), e (12 + 4 * p) (by omega), e (13 + 4 * p) (by omega)]; exact w6 p hp
  · rw [e (42 + 2 * p) (by omega), e (43 + 2 * p) (by omega)]; exact w7 p hp
  · rw [e 5 (by omega)] at hp
    rw [e (256 + 3 * p) (by omega), e (257 + 3 * p) (by omega), e (258 + 3 * p) (by omega), e 0 (by omega)]; exact w8 p hp
/-- the cells of the texts and of the reader -/
def TC : List Nat := [66, 40, 41, 42, 43, 44, 45, 46, 47, 48, 49, 50, 51, 52, 53, 54, 55, 56, 57, 58, 59, 60, 61, 62, 63]
theorem tx_t {t : Nat} (h : t < 4) : tx4 (40 + 6 * t) := by unfold tx4; omega
theorem tc_in {t : Nat} (h : t < 4) : ∀ c ∈ [66, 40 + 6 * t, 40 + 6 * t + 1 + 0, 40 + 6 * t + 1 + 1, 40 + 6 * t + 1 + 2, 40 + 6 * t + 1 + 3, 40 + 6 * t + 5], c ∈ TC := by
  rcases (show t = 0 ∨ t = 1 ∨ t = 2 ∨ t = 3 by omega) with rfl | rfl | rfl | rfl <;> decide
theorem tx_o {t t' i : Nat} (hn : t' ≠ t) (hi : i < 6) (h' : t' < 4) : 40 + 6 * t' + i ∉ [66, 40 + 6 * t, 40 + 6 * t + 1 + 0, 40 + 6 * t + 1 + 1, 40 + 6 * t + 1 + 2, 40 + 6 * t + 1 + 3, 40 + 6 * t + 5] := by
  simp only [List.mem_cons, List.not_mem_nil, or_false]
  omega
theorem st_text (hS : St M) (hTP : TP M) (hTF : TF M) (hX : TXS M (M 88 2)) : ok (f_X_text M) (fun y => ok (f_Q_text y.2) (fun z => TXO M y z)) := by
  obtain ⟨hA, hC⟩ := hS
  have w2 := hA.2.2.1
  have e13 : M 24 13 = M 88 2 := hC.1.1.2.2.2.1
  unfold f_X_text f_Told_texts
  rw [e13, ob]
  by_cases h4 : M 88 2 = 4
  · rw [if_neg (by omega)]
    refine ok_some ?_
    show ok (f_Q_text M) _
    unfold f_Q_text
    rw [if_pos h4]
    exact ok_some ⟨rfl, ⟨hA, hC⟩, hTP, hTF, hX, Int.le_refl _, fun _ _ => rfl⟩
  · obtain ⟨t, htn⟩ : ∃ t : Nat, M 88 2 = t := ⟨(M 88 2).toNat, by omega⟩
    have ht : t < 4 := by omega
    have hpt : pm_tx (t : Int) = 40 + 6 * t := by unfold pm_tx; rw [tn_nat]
    obtain ⟨N, hN⟩ : ∃ N : Nat, M 37 1 = N := ⟨(M 37 1).toNat, by have := hTP.1; omega⟩
    have hN3 : N ≤ 300 := by have := hTP.1; omega
    have htp : ∀ k : Nat, k < N → M 38 k = (M 90 k) % 256 ∧ -128 ≤ M 90 k ∧ M 90 k < 128 := fun k hk => hTP.2.2 k (by omega)
    obtain ⟨y0, a1, a2, _⟩ := b_read (N := N) (M := M) (MQ := M) (tx_t ht) hN hN3 (by rw [hTP.2.1]; exact hN) htp
    have a2' : fr TC M y0.2 := fr_mo a2 (tc_in ht)
    rw [htn, if_pos (by omega), if_pos (by omega), hpt, a1, ob]
    unfold f_Tape_cut f_Told_addText
    rw [pbd, ob]
    -- the reference behind any such end of the class
    have ref : ∀ Y : pm_M, (∀ c, c ∉ [24, 37] → Y c = y0.2 c) → Y 37 1 = 0 → (∀ i, i ≠ 13 → Y 24 i = M 24 i) →
        ∃ z, f_Q_text Y = some z ∧ TF z.2 ∧ TP z.2 ∧ (∀ c, c < 87 → z.2 c = Y c) ∧ (∀ c ∈ KI, z.2 c = M c) ∧
          ((y0.1 = 0 ∧ z.1 = -1 ∧ z.2 88 = M 88 ∧ TXS z.2 t) ∨ (y0.1 = 1 ∧ z.1 = t ∧ z.2 88 = aS (M 88) 2 ((t : Int) + 1) ∧ TXS z.2 ((t : Int) + 1))) := by
      intro Y hY hY0 _
      have yM : ∀ c, c ∉ (24 :: 37 :: TC) → Y c = M c := fun c hc => by
        rw [hY c (fun z => hc (by
          rcases List.mem_cons.mp z with e | z
          · rw [e]; decide
          · rw [List.mem_singleton.mp z]; decide)), a2' c (fun z => hc (List.mem_cons_of_mem _ (List.mem_cons_of_mem _ z)))]
      obtain ⟨y1, b1, _, Q1, Q', b2, b3, b4, b5, b6, b7, b8⟩ := b_read (N := N) (M := M) (MQ := Y) (tx_t ht) hN hN3 (by rw [yM 87 (by decide), hTP.2.1]; exact hN) (fun k hk => by rw [yM 90 (by decide)]; exact htp k hk)
      have ey : y1 = y0 := by rw [a1] at b1; exact (Option.some.inj b1).symm
      subst ey
      have y88 : Y 88 2 = t := by rw [yM 88 (by decide)]; exact htn
      have eT : f_Q_text Y = (f_Q_next (qz Y)).bind fun M855 => (f_Q_text_L74 pm_F M855).bind fun e1028 => pm_bd (pm_ms e1028 87 4 (e1028 87 18)) fun M1029 => pm_bd (pm_ms M1029 87 5 (M1029 87 19)) fun M1030 => if (M1030 87 18) ≤ 0 then (if 0 ≤ (M1030 88 2) ∧ (M1030 88 2) < 4 then (pm_bd (pm_ms M1030 91 ((M1030 88 2)).toNat (M1030 87 28)) fun M1031 => (f_Q_text_L211 pm_F (M1030 88 2) 0 M1031).bind fun e1036 => (f_Q_text_L301 pm_F e1036.1 0 e1036.2).bind fun e1039 => pm_bd (pm_ms e1039.2 88 2 (i_ad (e1039.2 88 2) 1)) fun M1040 => some (e1039.1, M1040)) else none) else (some ((-1), M1030)) := by
        unfold f_Q_text
        rw [if_neg (by omega)]
        rfl
      rw [eT, b2, ob, b3, ob, pbd, pbd, ms_nj Q' 87 4 _ (j := 19) (by omega)]
      generalize hR : pm_ms (pm_ms Q' 87 4 (Q' 87 18)) 87 5 (Q' 87 19) = R
      have fR : fz [87] [4, 5] Q' R := by
        rw [← hR]
        exact fz_tr (fz_87 (C := [87]) (S := [4, 5]) (by decide) (by decide)) (fz_87 (C := [87]) (S := [4, 5]) (by decide) (by decide)) (idm _) (idm _) (idm _) (idm _)
      have r4 : R 87 4 = Q' 87 18 := by rw [← hR, ms_nj _ _ _ _ (by omega), ms_at]
      have r5 : R 87 5 = Q' 87 19 := by rw [← hR, ms_at]
      have fYR : fr CD Y R := fr_tr b4.1 fR.1 (idm _) (by decide)
      have r3 : R 87 3 = 0 := by rw [fR.2 3 (by decide)]; exact b5
      have r18 : R 87 18 = Q' 87 18 := fR.2 18 (by decide)
      have r88 : R 88 = M 88 := by rw [fYR 88 (by decide)]; exact yM 88 (by decide)
      have y66 : Y 66 = y1.2 66 := hY 66 (by decide)
      -- what both ends share
      have fin : ∀ Z : pm_M, (∀ c, c < 87 → Z c = Y c) → (∀ c ∈ KI, Z c = R c) → Z 87 = R 87 → TF Z ∧ TP Z ∧ (∀ c ∈ KI, Z c = M c) := fun Z z1 z2 z3 => by
        refine ⟨⟨?_, ?_⟩, ⟨?_, ?_, fun k hk => ?_⟩, fun c hc => ?_⟩
        · rw [z1 66 (by omega), z3, r4, y66]; exact b6.symm
        · rw [z1 66 (by omega), z3, r5, y66]; exact b7.symm
        · rw [z1 37 (by omega), hY0]; omega
        · rw [z1 37 (by omega), hY0, z3]; exact r3
        · rw [z1 37 (by omega), hY0] at hk; omega
        · rw [z2 c hc]
          have k1 : ∀ c ∈ KI, c ∉ CD := by decide
          have k2 : ∀ c ∈ KI, c ∉ 24 :: 37 :: TC := by decide
          rw [fYR c (k1 c hc)]
          exact yM c (k2 c hc)
      have k87 : ∀ c ∈ CD, 87 ≤ c := by decide
      have lowR : ∀ c, c < 87 → R c = Y c := fun c hc => fYR c (fun z => by have := k87 c z; omega)
      -- an older text
      have old : ∀ (Z : pm_M) (t' : Nat), t' < t → (∀ c, c < 87 → Z c = Y c) → Z 91 t' = M 91 t' → (∀ c, c < 24 → Z 92 (24 * t' + c) = M 92 (24 * t' + c) ∧ Z 93 (24 * t' + c) = M 93 (24 * t' + c) ∧ Z 94 (24 * t' + c) = M 94 (24 * t' + c) ∧ Z 95 (24 * t' + c) = M 95 (24 * t' + c)) → (∀ i, 400 * t' ≤ i → i < 400 * t' + 400 → Z 96 i = M 96 i ∧ Z 97 i = M 97 i) → TXt Z t' := fun Z t' ht' z1 z2 z3 z4 => by
        refine TXt_cg (hX t' (by omega)) (fun i hi => ?_) z2 z3 z4
        rw [z1 _ (by omega), hY _ (by simp only [List.mem_cons, List.not_mem_nil, or_false]; omega)]
        exact a2 _ (tx_o (by omega) hi (by omega))
      rcases b8 with ⟨d1, d2⟩ | ⟨d1, d2, nc, p, cl, ql, d3⟩
      · rw [if_neg (by omega)]
        obtain ⟨u1, u2, u3⟩ := fin R lowR (fun _ _ => rfl) rfl
        refine ⟨_, rfl, u1, u2, lowR, u3, Or.inl ⟨d1, rfl, r88, fun t' ht' => ?_⟩⟩
        have eR : ∀ c ∈ [91, 92, 93, 94, 95, 96, 97], R c = M c := fun c hc => by
          have k1 : ∀ c ∈ [91, 92, 93, 94, 95, 96, 97], c ∉ CD := by decide
          have k2 : ∀ c ∈ [91, 92, 93, 94, 95, 96, 97], c ∉ 24 :: 37 :: TC := by decide
          rw [fYR c (k1 c hc)]
          exact yM c (k2 c hc)
        show TXt R t'
        refine old R t' (by omega) lowR (by rw [eR 91 (by decide)]) (fun c hc => ?_) (fun i h1 h2 => ?_)
        · rw [eR 92 (by decide), eR 93 (by decide), eR 94 (by decide), eR 95 (by decide)]; exact ⟨rfl, rfl, rfl, rfl⟩
        · rw [eR 96 (by decide), eR 97 (by decide)]; exact ⟨rfl, rfl⟩
      · have q28 : Q' 87 28 = nc := d3.2.2.2.2.2.1.2.1
        have q34 : Q' 87 34 = ql.length := d3.2.2.2.1.2.2.2.2.2.2.1
        have hnc : nc ≤ 24 := d3.2.2.2.2.2.2.2.2.2.2
        have hpN := p_le d3.2.1 d3.2.2.2.2.2.2.2.1
        have hql : ql.length ≤ p + nc := d3.2.2.2.2.2.2.2.2.2.1
        have r88t : R 88 2 = t := by rw [r88]; exact htn
        have r28 : R 87 28 = nc := by rw [fR.2 28 (by decide)]; exact q28
        rw [if_pos (by omega), r88t, if_pos (by omega), tn_nat, r28, pbd]
        generalize hM1 : pm_ms R 91 t (nc : Int) = M1
        have f1 : fr [91] R M1 := by rw [← hM1]; exact fr_ms (by decide)
        obtain ⟨M2, c1, c2, c3, c4⟩ := q_cp1 ht hnc nc pm_F 0 M1 (by omega) (by unfold pm_F; omega) (by rw [f1 87 (by decide)]; exact r28)
        have c1 : f_Q_text_L211 pm_F (t : Int) 0 M1 = some ((t : Int), M2) := c1
        obtain ⟨M3, e1, e2, e3, e4⟩ := q_cp2 ht (ln := ql.length) (by omega) ql.length pm_F 0 M2 (by omega) (by unfold pm_F; omega) (by rw [c4 87 (by decide), f1 87 (by decide), fR.2 34 (by decide)]; exact q34)
        have e1 : f_Q_text_L301 pm_F (t : Int) 0 M2 = some ((t : Int), M3) := e1
        rw [c1, ob, e1, ob]
        have f3 : fr [91, 92, 93, 94, 95, 96, 97] R M3 := fr_tr (fr_tr (S := [91, 92, 93, 94, 95, 96, 97]) f1 c4 (by decide) (by decide)) e4 (idm _) (by decide)
        have m88 : M3 88 = M 88 := by rw [f3 88 (by decide)]; exact r88
        have m882 : M3 88 2 = t := by rw [m88]; exact htn
        show ∃ z, pm_bd (pm_ms M3 88 2 (i_ad (M3 88 2) 1)) (fun M1040 => some ((t : Int), M1040)) = some z ∧ _
        rw [m882, i_ad_eq (by omega), pbd]
        generalize hZ : pm_ms M3 88 2 ((t : Int) + 1) = Z
        have fZ : fr [88] M3 Z := by rw [← hZ]; exact fr_ms (by decide)
        have fRZ : fr [88, 91, 92, 93, 94, 95, 96, 97] R Z := fr_tr f3 fZ (by decide) (by decide)
        have lowZ : ∀ c, c < 87 → Z c = Y c := fun c hc => by
          have k9 : ∀ c ∈ [88, 91, 92, 93, 94, 95, 96, 97], 87 ≤ c := by decide
          rw [fRZ c (fun z => by have := k9 c z; omega)]; exact lowR c hc
        have kiZ : ∀ c ∈ KI, c ∉ [88, 91, 92, 93, 94, 95, 96, 97] := by decide
        obtain ⟨u1, u2, u3⟩ := fin Z lowZ (fun c hc => fRZ c (kiZ c hc)) (fRZ 87 (by decide))
        refine ⟨_, rfl, u1, u2, lowZ, u3, Or.inr ⟨d1, rfl, by show Z 88 = _; rw [← hZ, msc, m88], fun t' ht' => ?_⟩⟩
        show TXt Z t'
        have z91 : Z 91 = aS (R 91) t (nc : Int) := by rw [fZ 91 (by decide), e4 91 (by decide), c4 91 (by decide), ← hM1, msc]
        have eR : ∀ c ∈ [91, 92, 93, 94, 95, 96, 97], R c = M c := fun c hc => by
          have k1 : ∀ c ∈ [91, 92, 93, 94, 95, 96, 97], c ∉ CD := by decide
          have k2 : ∀ c ∈ [91, 92, 93, 94, 95, 96, 97], c ∉ 24 :: 37 :: TC := by decide
          rw [fYR c (k1 c hc)]
          exact yM c (k2 c hc)
        have z92 : ∀ c ∈ [92, 93, 94, 95], Z c = M2 c := fun c hc => by
          have k1 : ∀ c ∈ [92, 93, 94, 95], c ∉ [88] := by decide
          have k2 : ∀ c ∈ [92, 93, 94, 95], c ∉ [96, 97] := by decide
          rw [fZ c (k1 c hc)]
          exact e4 c (k2 c hc)
        have z96 : ∀ c ∈ [96, 97], Z c = M3 c := fun c hc => by
          have k1 : ∀ c ∈ [96, 97], c ∉ [88] := by decide
          exact fZ c (k1 c hc)
        by_cases htt : t' = t
        · subst htt
          refine TXt_new ht d3 (fun i hi => ?_) (by rw [z91, aSn, if_pos rfl]) (fun c hc => ?_) (fun c hc => ?_)
          · rw [lowZ _ (by omega), hY _ (by simp only [List.mem_cons, List.not_mem_nil, or_false]; omega)]
          · have := c2 c (Nat.zero_le _) hc
            rw [z92 92 (by decide), z92 93 (by decide), z92 94 (by decide), z92 95 (by decide), this.1, this.2.1, this.2.2.1, this.2.2.2, f1 102 (by decide), f1 103 (by decide), f1 104 (by decide), f1 105 (by decide), fR.1 102 (by decide), fR.1 103 (by decide), fR.1 104 (by decide), fR.1 105 (by decide)]
            exact ⟨rfl, rfl, rfl, rfl⟩
          · have := e2 c (Nat.zero_le _) hc
            rw [z96 96 (by decide), z96 97 (by decide), this.1, this.2, c4 106 (by decide), c4 107 (by decide), f1 106 (by decide), f1 107 (by decide), fR.1 106 (by decide), fR.1 107 (by decide)]
            exact ⟨rfl, rfl⟩
        · refine old Z t' (by omega) lowZ (by rw [z91, aSn, if_neg htt, eR 91 (by decide)]) (fun c hc => ?_) (fun i h1 h2 => ?_)
          · have := c3 (24 * t' + c) (by omega)
            rw [z92 92 (by decide), z92 93 (by decide), z92 94 (by decide), z92 95 (by decide), this.1, this.2.1, this.2.2.1, this.2.2.2, f1 92 (by decide), f1 93 (by decide), f1 94 (by decide), f1 95 (by decide), eR 92 (by decide), eR 93 (by decide), eR 94 (by decide), eR 95 (by decide)]
            exact ⟨rfl, rfl, rfl, rfl⟩
          · have := e3 i (by omega)
            rw [z96 96 (by decide), z96 97 (by decide), this.1, this.2, c4 96 (by decide), c4 97 (by decide), f1 96 (by decide), f1 97 (by decide), eR 96 (by decide), eR 97 (by decide)]
            exact ⟨rfl, rfl⟩
    have cx : ∀ (c : Nat), c ∈ [1, 2, 25, 26, 27, 28, 29, 30, 31, 32, 33, 34, 36] → c ∉ TC ∧ c ∉ [24, 37] ∧ c < 87 := by decide
    generalize hY1 : pm_ms y0.2 37 1 0 = Y1
    have g1 : fr [37] y0.2 Y1 := by rw [← hY1]; exact fr_ms (by decide)
    have y137 : Y1 37 1 = 0 := by rw [← hY1, ms_at]
    have y124 : Y1 24 = M 24 := by rw [g1 24 (by decide)]; exact a2' 24 (by decide)
    by_cases h0 : y0.1 = 0
    · rw [if_pos h0]
      refine ok_some ?_
      obtain ⟨z, r1, r2, r3, r4, r5, r6⟩ := ref Y1 (fun c hc => g1 c (fun z => hc (List.mem_cons_of_mem _ z))) y137 (fun i _ => by rw [y124])
      refine ok_eq r1 ?_
      rcases r6 with ⟨_, q1, q2, q3⟩ | ⟨q0, _⟩
      · refine ⟨q1.symm, ⟨by rw [q2]; exact hA, ?_⟩, r3, r2, by rw [q2, htn]; exact q3, by rw [q2]; exact Int.le_refl _, r5⟩
        rw [q2]
        have hfr : fr (37 :: TC) M Y1 := fr_tr a2' g1 (fun _ h => List.mem_cons_of_mem _ h) (by decide)
        exact CX_congr r4 (CX_fr hfr (by decide) hC)
      · omega
    · rw [if_neg h0, pbd, ob, y124, e13, htn, i_ad_eq (by omega)]
      refine ok_some ?_
      generalize hY2 : pm_ms Y1 24 13 ((t : Int) + 1) = Y2
      have g2 : fr [24] Y1 Y2 := by rw [← hY2]; exact fr_ms (by decide)
      have y224 : Y2 24 = aS (M 24) 13 ((t : Int) + 1) := by rw [← hY2, msc, y124]
      obtain ⟨z, r1, r2, r3, r4, r5, r6⟩ := ref Y2 (fun c hc => by rw [g2 c (fun z => hc (by rw [List.mem_singleton.mp z]; decide)), g1 c (fun z => hc (List.mem_cons_of_mem _ z))]) (by rw [g2 37 (by decide)]; exact y137) (fun i hi => by rw [y224, aSn, if_neg hi])
      refine ok_eq r1 ?_
      rcases r6 with ⟨q0, _⟩ | ⟨_, q1, q2, q3⟩
      · omega
      · have ez2 : z.2 88 2 = (t : Int) + 1 := by rw [q2, aSn, if_pos rfl]
        refine ⟨q1.symm, ⟨?_, ?_⟩, r3, r2, by rw [ez2]; exact q3, by rw [ez2]; omega, r5⟩
        · rw [q2, ← htn]; exact WF_tx hA (by omega)
        · rw [q2, ← htn]
          refine CX_tx hA hC ?_ (fun c hc => ?_)
          · rw [r4 24 (by omega), y224, htn]
          · have hcc := cx c hc
            rw [r4 c hcc.2.2, g2 c (fun z => hcc.2.1 (by rw [List.mem_singleton.mp z]; decide)), g1 c (fun z => hcc.2.1 (List.mem_cons_of_mem _ z))]
            exact a2' c hcc.1
end
