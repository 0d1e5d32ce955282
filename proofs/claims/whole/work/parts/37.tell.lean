/-! PLINTHS, HEADS, SIGHTS -/
theorem CX_told {A A' : Nat → Int} {M M' : pm_M} {S : List Nat} (hA : WF A) (hC : CX 24 36 1 A M) (hf : fr S M M') (hS : 1 ∉ S ∧ 2 ∉ S ∧ 36 ∉ S) (h : ∀ k, k = 4 ∨ (70 ≤ k ∧ k < 256) ∨ (292 ≤ k ∧ k < 4012) → A' k = A k) (hT : rT 24 A' M') : CX 24 36 1 A' M' :=
  ⟨hT, rR_B (fun k h1 h2 => h k (by omega)) (rR_congr (hf 36 hS.2.2) hC.2.1), rS_B hA.2.2.2.2.1 (h 4 (by omega)) (fun k h1 h2 => h k (by omega)) (rS_congr (hf 1 hS.1) (hf 2 hS.2.1) hC.2.2)⟩
section
variable {A : Nat → Int} {M : pm_M}
def a_sn (A : Nat → Int) (a b c : Int) : Nat → Int := aS (aS (aS (aS A (256 + 3 * (A 5).toNat) a) (257 + 3 * (A 5).toNat) b) (258 + 3 * (A 5).toNat) c) 5 (A 5 + 1)
theorem a_sn_o {a b c : Int} {k : Nat} (h : k ≠ 5) (h2 : k < 256 + 3 * (A 5).toNat ∨ 258 + 3 * (A 5).toNat < k) : a_sn A a b c k = A k := by
  unfold a_sn
  rw [aSn, if_neg h, aSn, if_neg (by omega), aSn, if_neg (by omega), aSn, if_neg (by omega)]
theorem a_sn_n {a b c : Int} : a_sn A a b c 5 = A 5 + 1 ∧ a_sn A a b c (256 + 3 * (A 5).toNat) = a ∧ a_sn A a b c (257 + 3 * (A 5).toNat) = b ∧ a_sn A a b c (258 + 3 * (A 5).toNat) = c := by
  unfold a_sn
  refine ⟨?_, ?_, ?_, ?_⟩
  · rw [aSn, if_pos rfl]
  · rw [aSn, if_neg (by omega), aSn, if_neg (by omega), aSn, if_neg (by omega), aSn, if_pos rfl]
  · rw [aSn, if_neg (by omega), aSn, if_neg (by omega), aSn, if_pos rfl]
  · rw [aSn, if_neg (by omega), aSn, if_pos rfl]
def c_sn (A : Nat → Int) (a b c : Int) : Prop := A 5 ≠ 12 ∧ (1 ≤ a ∧ a ≤ 8) ∧ (0 ≤ b ∧ b < A 0) ∧ (-1 ≤ c ∧ c ≤ 3)
theorem x_seen (hA : WF A) (hC : CX 24 36 1 A M) (a b c : Int) : ok (f_X_seen a b c M) (XP (c_sn A a b c) (-1) (A 5 + 1) (a_sn A a b c) [24, 32, 33, 34] M) := by
  have w0 := hA.1
  have w5 := hA.2.2.2.2.2.1
  obtain ⟨⟨t1, t2, t3, t4, t5⟩, t6, t7, t8, t9⟩ := hC.1
  unfold f_X_seen
  have inner : ok (f_Told_addSeen a b c M) (XP (c_sn A a b c) (-1) (A 5 + 1) (a_sn A a b c) [24, 32, 33, 34] M) := by
    unfold f_Told_addSeen
    rw [t3]
    refine ok_ite (fun h1 => ok_some (XP_no (fun z => by have := z.1; omega))) (fun h1 => ?_)
    refine ok_ite (fun h2 => ok_some (XP_no (fun z => by have := z.2.1; omega))) (fun h2 => ?_)
    refine ok_ite (fun h3 => ok_some (XP_no (fun z => by have := z.2.1; omega))) (fun h3 => ?_)
    refine ok_pl (x_isPl t1 b) (fun h4 => ok_neg (by omega) ?_) (fun h4 => ok_pos rfl (ok_some (XP_no (fun z => h4 z.2.2.1))))
    refine ok_ite (fun h5 => ok_some (XP_no (fun z => by have := z.2.2.2; omega))) (fun h5 => ?_)
    refine ok_ite (fun h6 => ?_) (fun h6 => ok_some (XP_no (fun z => by have := z.2.2.2; omega)))
    refine ok_pos (by omega) (ok_bd ?_)
    rw [show pm_ms M 32 (A 5).toNat a 24 = M 24 from rfl, t3]
    refine ok_pos (by omega) (ok_bd ?_)
    rw [show pm_ms (pm_ms M 32 (A 5).toNat a) 33 (A 5).toNat b 24 = M 24 from rfl, t3]
    refine ok_pos (by omega) (ok_bd (ok_bd (ok_some ?_)))
    have c24 : pm_ms (pm_ms (pm_ms M 32 (A 5).toNat a) 33 (A 5).toNat b) 34 (A 5).toNat c 24 = M 24 := rfl
    rw [c24, t3, i_ad_eq (by omega)]
    obtain ⟨k, ek⟩ : ∃ k : Nat, A 5 = k := ⟨(A 5).toNat, by omega⟩
    have hk : (A 5).toNat = k := by omega
    have e := fun j h1 h2 => a_sn_o (A := A) (a := a) (b := b) (c := c) (k := j) h1 h2
    have en := a_sn_n (A := A) (a := a) (b := b) (c := c)
    generalize hM' : pm_ms (pm_ms (pm_ms (pm_ms M 32 (A 5).toNat a) 33 (A 5).toNat b) 34 (A 5).toNat c) 24 12 (A 5 + 1) = M'
    have g24 : M' 24 = aS (M 24) 12 (A 5 + 1) := by rw [← hM']; rfl
    have g32 : M' 32 = aS (M 32) (A 5).toNat a := by rw [← hM']; rfl
    have g33 : M' 33 = aS (M 33) (A 5).toNat b := by rw [← hM']; rfl
    have g34 : M' 34 = aS (M 34) (A 5).toNat c := by rw [← hM']; rfl
    have gf : fr [24, 32, 33, 34] M M' := by rw [← hM']; exact fr_2 (fr_2 (fr_2 (fr_ms (by decide)) (fr_ms (by decide))) (fr_ms (by decide))) (fr_ms (by decide))
    refine Or.inr ⟨⟨by omega, by omega, h4, by omega⟩, by show M' 24 12 = _; rw [g24, aSn, if_pos rfl], CX_told hA hC gf (by decide) (fun j hj => e j (by omega) (by omega)) ?_, gf⟩
    rw [hk] at g32 g33 g34 e en
    show rT 24 (a_sn A a b c) M'
    refine ⟨⟨?_, ?_, ?_, ?_, ?_⟩, fun p hp => ?_, fun p hp => ?_, fun p hp => ?_, fun p hp => ?_⟩
    · rw [g24, aSn, if_neg (by omega), e 0 (by omega) (by omega)]; exact t1
    · rw [g24, aSn, if_neg (by omega), e 1 (by omega) (by omega)]; exact t2
    · rw [g24, aSn, if_pos rfl, en.1]
    · rw [g24, aSn, if_neg (by omega), e 2 (by omega) (by omega)]; exact t4
    · rw [g24, aSn, if_neg (by omega), e 3 (by omega) (by omega)]; exact t5
    · rw [gf (24 + 1) (by decide), gf (24 + 2) (by decide), gf (24 + 3) (by decide), gf (24 + 4) (by decide), e (10 + 4 * p) (by omega) (by omega), e (11 + 4 * p) (by omega) (by omega), e (12 + 4 * p) (by omega) (by omega), e (13 + 4 * p) (by omega) (by omega)]
      exact t6 p hp
    · rw [e 0 (by omega) (by omega)] at hp ⊢
      rw [gf (24 + 5) (by decide), t7 p hp, a_cl_congr (by omega) (fun j _ _ => e j (by omega) (by omega)) _ (by omega)]
    · rw [gf (24 + 6) (by decide), gf (24 + 7) (by decide), e (42 + 2 * p) (by omega) (by omega), e (43 + 2 * p) (by omega) (by omega)]; exact t8 p hp
    · rw [show (24 + 8 : Nat) = 32 from rfl, show (24 + 9 : Nat) = 33 from rfl, show (24 + 10 : Nat) = 34 from rfl, g32, g33, g34, aSn, aSn, aSn]
      by_cases hpk : p = k
      · rw [if_pos hpk, if_pos hpk, if_pos hpk, hpk]; exact ⟨en.2.1.symm, en.2.2.1.symm, en.2.2.2.symm⟩
      · rw [if_neg hpk, if_neg hpk, if_neg hpk, e (256 + 3 * p) (by omega) (by omega), e (257 + 3 * p) (by omega) (by omega), e (258 + 3 * p) (by omega) (by omega)]; exact t9 p hp
  exact ok_bind inner (fun y hy => ok_some hy)
theorem q_seen (hA : WF A) (hM : M 88 = A) (a b c : Int) : ok (f_Q_seen a b c M) (QP (c_sn A a b c) (-1) (A 5 + 1) (a_sn A a b c) [88] M) := by
  have w0 := hA.1
  have w5 := hA.2.2.2.2.2.1
  unfold f_Q_seen
  refine ok_dc (f_Q_in_eq a 1 8 M) (fun h1 => ok_neg (by omega) ?_) (fun h1 => ok_pos rfl (ok_some (QP_no (fun z => h1 z.2.1))))
  refine ok_pl (q_isPl (congrFun hM 0) hA.1 b) (fun h2 => ok_neg (by omega) ?_) (fun h2 => ok_pos rfl (ok_some (QP_no (fun z => h2 z.2.2.1))))
  refine ok_dc (f_Q_in_eq c (-1) 3 M) (fun h3 => ok_neg (by omega) ?_) (fun h3 => ok_pos rfl (ok_some (QP_no (fun z => h3 z.2.2.2))))
  rw [hM]
  refine ok_ite (fun h4 => ok_some (QP_no (fun z => z.1 h4))) (fun h4 => ok_bd ?_)
  simp (disch := omega) only [i_ml_eq, i_ad_eq]
  refine ok_pos (by omega) (ok_bd (ok_pos (by omega) (ok_bd (ok_pos (by omega) (ok_bd (ok_bd (ok_some (Or.inr ⟨⟨h4, h1, h2, h3⟩, ?_, ?_, fr_2 (fr_2 (fr_2 (fr_ms (by decide)) (fr_ms (by decide))) (fr_ms (by decide))) (fr_ms (by decide))⟩))))))))
  · dsimp only
    simp only [msc, hM, aSn]
    rw [if_pos trivial, if_neg (by omega), if_neg (by omega), if_neg (by omega), i_ad_eq (by omega)]
  · dsimp only
    simp only [msc, hM, aSn]
    rw [if_neg (by omega), if_neg (by omega), if_neg (by omega), i_ad_eq (by omega)]
    unfold a_sn
    rw [show ((256 : Int) + 3 * A 5).toNat = 256 + 3 * (A 5).toNat by omega, show ((256 : Int) + 3 * A 5 + 1).toNat = 257 + 3 * (A 5).toNat by omega, show ((256 : Int) + 3 * A 5 + 2).toNat = 258 + 3 * (A 5).toNat by omega]
theorem w_seen (hA : WF A) {a b c : Int} (hc : c_sn A a b c) : WF (a_sn A a b c) ∧ a_sn A a b c 2 = A 2 := by
  obtain ⟨w0, w1, w2, w3, w4, w5, w6, w7, w8, w9, w10⟩ := id hA
  have e := fun j h1 h2 => a_sn_o (A := A) (a := a) (b := b) (c := c) (k := j) h1 h2
  have en := a_sn_n (A := A) (a := a) (b := b) (c := c)
  obtain ⟨h1, h2, h3, h4⟩ := hc
  refine ⟨WF_T hA (fun k hk => e k (by omega) (by omega)) (by rw [e 0 (by omega) (by omega)]; omega) (by rw [e 1 (by omega) (by omega)]; omega) (by rw [e 2 (by omega) (by omega)]; exact w2) (by rw [e 2 (by omega) (by omega), e 3 (by omega) (by omega)]; exact w3) (by rw [en.1]; omega) (fun p hp => ?_) (fun p hp => ?_) (fun p hp => ?_), e 2 (by omega) (by omega)⟩
  · rw [e (10 + 4 * p) (by omega) (by omega), e (11 + 4 * p) (by omega) (by omega), e (12 + 4 * p) (by omega) (by omega), e (13 + 4 * p) (by omega) (by omega)]; exact w6 p hp
  · rw [e (42 + 2 * p) (by omega) (by omega), e (43 + 2 * p) (by omega) (by omega)]; exact w7 p hp
  · rw [en.1] at hp
    rw [e 0 (by omega) (by omega)]
    by_cases hpk : p = (A 5).toNat
    · rw [hpk, en.2.1, en.2.2.1, en.2.2.2]; exact ⟨h2, h3, h4⟩
    · rw [e (256 + 3 * p) (by omega) (by omega), e (257 + 3 * p) (by omega) (by omega), e (258 + 3 * p) (by omega) (by omega)]; exact w8 p (by omega)
-- forget
theorem x_forget (hA : WF A) (hC : CX 24 36 1 A M) : ok (f_X_forget M) (XP True 0 (A 5) (aS A 5 0) [24] M) := by
  have w0 := hA.1
  obtain ⟨⟨t1, t2, t3, t4, t5⟩, t6, t7, t8, t9⟩ := hC.1
  unfold f_X_forget f_Told_dropSeen
  refine ok_be rfl (ok_some (Or.inr ⟨trivial, t3, CX_told hA hC (S := [24]) (fr_ms (by decide)) (by decide) (fun j hj => by rw [aSn, if_neg (by omega)]) ?_, fr_ms (by decide)⟩))
  have e : ∀ j, j ≠ 5 → aS A 5 0 j = A j := fun j hj => by rw [aSn, if_neg hj]
  have gf : fr [24] M (pm_ms M 24 12 0) := fr_ms (by decide)
  have g24 : pm_ms M 24 12 0 24 = aS (M 24) 12 0 := rfl
  show rT 24 (aS A 5 0) (pm_ms M 24 12 0)
  generalize pm_ms M 24 12 0 = M' at gf g24 ⊢
  refine ⟨⟨?_, ?_, ?_, ?_, ?_⟩, fun p hp => ?_, fun p hp => ?_, fun p hp => ?_, fun p hp => ?_⟩
  · rw [g24, aSn, if_neg (by omega), e 0 (by omega)]; exact t1
  · rw [g24, aSn, if_neg (by omega), e 1 (by omega)]; exact t2
  · rw [g24, aSn, if_pos rfl, aSn, if_pos rfl]
  · rw [g24, aSn, if_neg (by omega), e 2 (by omega)]; exact t4
  · rw [g24, aSn, if_neg (by omega), e 3 (by omega)]; exact t5
  · rw [gf (24 + 1) (by decide), gf (24 + 2) (by decide), gf (24 + 3) (by decide), gf (24 + 4) (by decide), e (10 + 4 * p) (by omega), e (11 + 4 * p) (by omega), e (12 + 4 * p) (by omega), e (13 + 4 * p) (by omega)]
    exact t6 p hp
  · rw [e 0 (by omega)] at hp ⊢
    rw [gf (24 + 5) (by decide), t7 p hp, a_cl_congr (by omega) (fun j _ _ => e j (by omega)) _ (by omega)]
  · rw [gf (24 + 6) (by decide), gf (24 + 7) (by decide), e (42 + 2 * p) (by omega), e (43 + 2 * p) (by omega)]; exact t8 p hp
  · rw [gf (24 + 8) (by decide), gf (24 + 9) (by decide), gf (24 + 10) (by decide), e (256 + 3 * p) (by omega), e (257 + 3 * p) (by omega), e (258 + 3 * p) (by omega)]; exact t9 p hp
theorem q_forget (hM : M 88 = A) : ok (f_Q_forget M) (QP True 0 (A 5) (aS A 5 0) [88] M) := by
  unfold f_Q_forget
  rw [hM]
  exact ok_bd (ok_some (Or.inr ⟨trivial, rfl, by show pm_ms M 88 5 0 88 = _; rw [msc, hM], fr_ms (by decide)⟩))
theorem w_forget (hA : WF A) : WF (aS A 5 0) ∧ aS A 5 0 2 = A 2 := by
  obtain ⟨w0, w1, w2, w3, w4, w5, w6, w7, w8, w9, w10⟩ := id hA
  have e : ∀ j, j ≠ 5 → aS A 5 0 j = A j := fun j hj => by rw [aSn, if_neg hj]
  refine ⟨WF_T hA (fun k hk => e k (by omega)) (by rw [e 0 (by omega)]; omega) (by rw [e 1 (by omega)]; omega) (by rw [e 2 (by omega)]; exact w2) (by rw [e 2 (by omega), e 3 (by omega)]; exact w3) (by rw [aSn, if_pos rfl]; omega) (fun p hp => ?_) (fun p hp => ?_) (fun p hp => ?_), e 2 (by omega)⟩
  · rw [e (10 + 4 * p) (by omega), e (11 + 4 * p) (by omega), e (12 + 4 * p) (by omega), e (13 + 4 * p) (by omega)]; exact w6 p hp
  · rw [e (42 + 2 * p) (by omega), e (43 + 2 * p) (by omega)]; exact w7 p hp
  · rw [aSn, if_pos rfl] at hp; omega
-- a head
def a_hn (A : Nat → Int) (a b : Int) : Nat → Int := aS (aS (aS A (42 + 2 * (A 1).toNat) a) (43 + 2 * (A 1).toNat) b) 1 (A 1 + 1)
theorem a_hn_o {a b : Int} {k : Nat} (h : k ≠ 1) (h2 : k < 42 + 2 * (A 1).toNat ∨ 43 + 2 * (A 1).toNat < k) : a_hn A a b k = A k := by
  unfold a_hn
  rw [aSn, if_neg h, aSn, if_neg (by omega), aSn, if_neg (by omega)]
theorem a_hn_n {a b : Int} : a_hn A a b 1 = A 1 + 1 ∧ a_hn A a b (42 + 2 * (A 1).toNat) = a ∧ a_hn A a b (43 + 2 * (A 1).toNat) = b := by
  unfold a_hn
  refine ⟨?_, ?_, ?_⟩
  · rw [aSn, if_pos rfl]
  · rw [aSn, if_neg (by omega), aSn, if_neg (by omega), aSn, if_pos rfl]
  · rw [aSn, if_neg (by omega), aSn, if_pos rfl]
def c_hn (A : Nat → Int) (a b : Int) : Prop := A 1 ≠ 12 ∧ (0 ≤ a ∧ a ≤ 9) ∧ (0 ≤ b ∧ b ≤ 3)
theorem x_head (hA : WF A) (hC : CX 24 36 1 A M) (a b : Int) : ok (f_X_head a b M) (XP (c_hn A a b) (-1) (A 1) (a_hn A a b) [24, 30, 31] M) := by
  have w0 := hA.1
  have w1 := hA.2.1
  obtain ⟨⟨t1, t2, t3, t4, t5⟩, t6, t7, t8, t9⟩ := hC.1
  unfold f_X_head
  have inner : ok (f_Told_addHead a b M) (XP (c_hn A a b) (-1) (A 1) (a_hn A a b) [24, 30, 31] M) := by
    unfold f_Told_addHead
    rw [t2]
    refine ok_ite (fun h1 => ok_some (XP_no (fun z => by have := z.1; omega))) (fun h1 => ?_)
    refine ok_ite (fun h2 => ok_some (XP_no (fun z => by have := z.2.1; omega))) (fun h2 => ?_)
    refine ok_ite (fun h3 => ok_some (XP_no (fun z => by have := z.2.1; omega))) (fun h3 => ?_)
    refine ok_ite (fun h5 => ok_some (XP_no (fun z => by have := z.2.2; omega))) (fun h5 => ?_)
    refine ok_ite (fun h6 => ?_) (fun h6 => ok_some (XP_no (fun z => by have := z.2.2; omega)))
    refine ok_pos (by omega) (ok_bd ?_)
    rw [show pm_ms M 30 (A 1).toNat a 24 = M 24 from rfl, t2]
    refine ok_pos (by omega) (ok_bd (ok_bd (ok_some ?_)))
    have c24 : pm_ms (pm_ms M 30 (A 1).toNat a) 31 (A 1).toNat b 24 = M 24 := rfl
    rw [c24, t2, i_ad_eq (by omega)]
    obtain ⟨k, ek⟩ : ∃ k : Nat, A 1 = k := ⟨(A 1).toNat, by omega⟩
    have hk : (A 1).toNat = k := by omega
    have e := fun j h1 h2 => a_hn_o (A := A) (a := a) (b := b) (k := j) h1 h2
    have en := a_hn_n (A := A) (a := a) (b := b)
    generalize hM' : pm_ms (pm_ms (pm_ms M 30 (A 1).toNat a) 31 (A 1).toNat b) 24 11 (A 1 + 1) = M'
    have g24 : M' 24 = aS (M 24) 11 (A 1 + 1) := by rw [← hM']; rfl
    have g30 : M' 30 = aS (M 30) (A 1).toNat a := by rw [← hM']; rfl
    have g31 : M' 31 = aS (M 31) (A 1).toNat b := by rw [← hM']; rfl
    have gf : fr [24, 30, 31] M M' := by rw [← hM']; exact fr_2 (fr_2 (fr_ms (by decide)) (fr_ms (by decide))) (fr_ms (by decide))
    refine Or.inr ⟨⟨by omega, by omega, by omega⟩, by show i_sb (M' 24 11) 1 = _; rw [g24, aSn, if_pos rfl, i_sb_eq (by omega)]; omega, CX_told hA hC gf (by decide) (fun j hj => e j (by omega) (by omega)) ?_, gf⟩
    rw [hk] at g30 g31 e en
    show rT 24 (a_hn A a b) M'
    refine ⟨⟨?_, ?_, ?_, ?_, ?_⟩, fun p hp => ?_, fun p hp => ?_, fun p hp => ?_, fun p hp => ?_⟩
    · rw [g24, aSn, if_neg (by omega), e 0 (by omega) (by omega)]; exact t1
    · rw [g24, aSn, if_pos rfl, en.1]
    · rw [g24, aSn, if_neg (by omega), e 5 (by omega) (by omega)]; exact t3
    · rw [g24, aSn, if_neg (by omega), e 2 (by omega) (by omega)]; exact t4
    · rw [g24, aSn, if_neg (by omega), e 3 (by omega) (by omega)]; exact t5
    · rw [gf (24 + 1) (by decide), gf (24 + 2) (by decide), gf (24 + 3) (by decide), gf (24 + 4) (by decide), e (10 + 4 * p) (by omega) (by omega), e (11 + 4 * p) (by omega) (by omega), e (12 + 4 * p) (by omega) (by omega), e (13 + 4 * p) (by omega) (by omega)]
      exact t6 p hp
    · rw [e 0 (by omega) (by omega)] at hp ⊢
      rw [gf (24 + 5) (by decide), t7 p hp, a_cl_congr (by omega) (fun j _ _ => e j (by omega) (by omega)) _ (by omega)]
    · rw [show (24 + 6 : Nat) = 30 from rfl, show (24 + 7 : Nat) = 31 from rfl, g30, g31, aSn, aSn]
      by_cases hpk : p = k
      · rw [if_pos hpk, if_pos hpk, hpk]; exact ⟨en.2.1.symm, en.2.2.symm⟩
      · rw [if_neg hpk, if_neg hpk, e (42 + 2 * p) (by omega) (by omega), e (43 + 2 * p) (by omega) (by omega)]; exact t8 p hp
    · rw [gf (24 + 8) (by decide), gf (24 + 9) (by decide), gf (24 + 10) (by decide), e (256 + 3 * p) (by omega) (by omega), e (257 + 3 * p) (by omega) (by omega), e (258 + 3 * p) (by omega) (by omega)]; exact t9 p hp
  exact ok_bind inner (fun y hy => ok_some hy)
theorem q_head (hA : WF A) (hM : M 88 = A) (a b : Int) : ok (f_Q_head a b M) (QP (c_hn A a b) (-1) (A 1) (a_hn A a b) [88] M) := by
  have w1 := hA.2.1
  unfold f_Q_head
  refine ok_dc (f_Q_in_eq a 0 9 M) (fun h1 => ok_neg (by omega) ?_) (fun h1 => ok_pos rfl (ok_some (QP_no (fun z => h1 z.2.1))))
  refine ok_dc (f_Q_in_eq b 0 3 M) (fun h3 => ok_neg (by omega) ?_) (fun h3 => ok_pos rfl (ok_some (QP_no (fun z => h3 z.2.2))))
  rw [hM]
  refine ok_ite (fun h4 => ok_some (QP_no (fun z => z.1 h4))) (fun h4 => ?_)
  rw [i_ml_eq (a := 2) (b := A 1) (by omega), i_ad_eq (a := 42) (b := 2 * A 1) (by omega), show ((42 : Int) + 2 * A 1).toNat = 42 + 2 * (A 1).toNat by omega]
  refine ok_pos (by omega) (ok_bd ?_)
  rw [show pm_ms M 88 (42 + 2 * (A 1).toNat) a 88 1 = A 1 by rw [msc, aSn, if_neg (by omega), hM], i_ml_eq (a := 2) (b := A 1) (by omega), i_ad_eq (a := 42) (b := 2 * A 1) (by omega), i_ad_eq (by omega), show ((42 : Int) + 2 * A 1 + 1).toNat = 43 + 2 * (A 1).toNat by omega]
  refine ok_pos (by omega) (ok_bd ?_)
  rw [show pm_ms (pm_ms M 88 (42 + 2 * (A 1).toNat) a) 88 (43 + 2 * (A 1).toNat) b 88 1 = A 1 by rw [msc, aSn, if_neg (by omega), msc, aSn, if_neg (by omega), hM], i_ad_eq (by omega)]
  refine ok_bd (ok_some (Or.inr ⟨⟨h4, h1, h3⟩, ?_, ?_, fr_2 (fr_2 (fr_ms (by decide)) (fr_ms (by decide))) (fr_ms (by decide))⟩))
  · show i_sb (pm_ms _ 88 1 (A 1 + 1) 88 1) 1 = _
    rw [msc, aSn, if_pos rfl, i_sb_eq (by omega)]; omega
  · show pm_ms (pm_ms (pm_ms M 88 (42 + 2 * (A 1).toNat) a) 88 (43 + 2 * (A 1).toNat) b) 88 1 (A 1 + 1) 88 = _
    rw [msc, msc, msc, hM]; rfl
theorem w_head (hA : WF A) {a b : Int} (hc : c_hn A a b) : WF (a_hn A a b) ∧ a_hn A a b 2 = A 2 := by
  obtain ⟨w0, w1, w2, w3, w4, w5, w6, w7, w8, w9, w10⟩ := id hA
  have e := fun j h1 h2 => a_hn_o (A := A) (a := a) (b := b) (k := j) h1 h2
  have en := a_hn_n (A := A) (a := a) (b := b)
  obtain ⟨h1, h2, h3⟩ := hc
  refine ⟨WF_T hA (fun k hk => e k (by omega) (by omega)) (by rw [e 0 (by omega) (by omega)]; omega) (by rw [en.1]; omega) (by rw [e 2 (by omega) (by omega)]; exact w2) (by rw [e 2 (by omega) (by omega), e 3 (by omega) (by omega)]; exact w3) (by rw [e 5 (by omega) (by omega)]; exact w5) (fun p hp => ?_) (fun p hp => ?_) (fun p hp => ?_), e 2 (by omega) (by omega)⟩
  · rw [e (10 + 4 * p) (by omega) (by omega), e (11 + 4 * p) (by omega) (by omega), e (12 + 4 * p) (by omega) (by omega), e (13 + 4 * p) (by omega) (by omega)]; exact w6 p hp
  · by_cases hpk : p = (A 1).toNat
    · rw [hpk, en.2.1, en.2.2]; exact ⟨h2, h3⟩
    · rw [e (42 + 2 * p) (by omega) (by omega), e (43 + 2 * p) (by omega) (by omega)]; exact w7 p hp
  · rw [e 5 (by omega) (by omega)] at hp
    rw [e 0 (by omega) (by omega), e (256 + 3 * p) (by omega) (by omega), e (257 + 3 * p) (by omega) (by omega), e (258 + 3 * p) (by omega) (by omega)]; exact w8 p hp
end
