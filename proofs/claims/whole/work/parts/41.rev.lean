/-! REVOLUTIONS -/
def nx (x : Int) : Int := (x * 193 + 71) % 30059
theorem nx_b (x : Int) : 0 ≤ nx x ∧ nx x < 30059 := by unfold nx; omega
section
variable {A : Nat → Int} {M : pm_M}
theorem CX_fr {M' : pm_M} {S : List Nat} (hf : fr S M M') (hS : ∀ c ∈ [1, 2, 24, 25, 26, 27, 28, 29, 30, 31, 32, 33, 34, 36], c ∉ S) (H : CX 24 36 1 A M) : CX 24 36 1 A M' := by
  refine ⟨rT_congr (fun k hk => ?_) H.1, rR_congr (hf 36 (hS 36 (by decide))) H.2.1, rS_congr (hf 1 (hS 1 (by decide))) (hf 2 (hS 2 (by decide))) H.2.2⟩
  refine hf (24 + k) (hS _ ?_)
  simp
  omega
theorem x_draw {x b : Int} (hx : M 0 14 = x) (h : 0 ≤ x ∧ x < 200000) (hb : 0 < b ∧ b < 1000) : f_X_draw b M = some (x % b, pm_ms M 0 14 (nx x)) := by
  unfold f_X_draw
  rw [if_neg (by omega), if_neg (by omega), hx, i_ml_eq (by omega), i_ad_eq (by omega), i_rm_eq (by omega) (by omega), i_rm_eq (by omega) (by omega)]
  rfl
theorem q_draw {x b : Int} (hx : M 87 54 = x) (h : 0 ≤ x ∧ x < 200000) (hb : 0 < b ∧ b < 1000) : f_Q_draw b M = some (x % b, pm_ms M 87 54 (nx x)) := by
  unfold f_Q_draw
  rw [if_neg (by omega), hx, i_ml_eq (by omega), i_ad_eq (by omega), i_rm_eq (by omega) (by omega), i_rm_eq (by omega) (by omega)]
  rfl
/-- one turn -/
def TN (k f s : Int) (A A' : Nat → Int) (d : Int) : Prop :=
  (k = 0 ∧ a_cp A f s ∧ d = 1 ∧ A' = rU A (aS (a_row A) s.toNat f)) ∨ (k = 1 ∧ a_cc A f s ∧ d = 1 ∧ A' = rU A (r_sw (a_row A) f.toNat s.toNat)) ∨ (k = 2 ∧ a_co A f ∧ d = 1 ∧ A' = rU A (aS (a_row A) f.toNat (-1))) ∨
  (¬ (k = 0 ∧ a_cp A f s) ∧ ¬ (k = 1 ∧ a_cc A f s) ∧ ¬ (k = 2 ∧ a_co A f) ∧ d = 0 ∧ A' = A)
theorem TN_W {k f s d : Int} {A' : Nat → Int} (hA : WF A) (h : TN k f s A A' d) : WF A' ∧ A' 2 = A 2 ∧ A' 0 = A 0 ∧ A' 1 = A 1 := by
  have w0 := hA.1
  have w1 := hA.2.1
  have w9 := hA.2.2.2.2.2.2.2.2.2.1
  rcases h with ⟨_, hc, _, rfl⟩ | ⟨_, hc, _, rfl⟩ | ⟨_, hc, _, rfl⟩ | ⟨_, _, _, _, rfl⟩
  · obtain ⟨h1, h2, h3, h4⟩ := hc
    have := rW_put (h := f.toNat) (p := s.toNat) w9 (by omega) (by omega) (by omega) (fun q hq => by rw [show ((f.toNat : Nat) : Int) = f by omega]; exact pf_n.mp h4 q hq)
    rw [show ((f.toNat : Nat) : Int) = f by omega] at this
    exact ⟨WF_rU this hA, rU_o (by omega), rU_o (by omega), rU_o (by omega)⟩
  · obtain ⟨h1, h2, h3, h4⟩ := hc
    exact ⟨WF_rU (rW_swap w9 (by omega) (by omega) (by omega) (by omega) (by omega)) hA, rU_o (by omega), rU_o (by omega), rU_o (by omega)⟩
  · obtain ⟨h1, h2⟩ := hc
    exact ⟨WF_rU (rW_off w9 (by omega) (by omega)) hA, rU_o (by omega), rU_o (by omega), rU_o (by omega)⟩
  · exact ⟨hA, rfl, rfl, rfl⟩
def t_k (x : Int) : Int := x % 3
def t_f (A : Nat → Int) (x : Int) : Int := nx x % (if t_k x = 0 then A 1 else A 0)
def t_s (A : Nat → Int) (x : Int) : Int := nx (nx x) % A 0
theorem x_stand (w : A 0 ≤ 8) (hC : CX 24 36 1 A M) {p : Int} (hp : 0 ≤ p ∧ p < 8) (v : Int) : ok (f_Moment_stand p v M) (fun M' => CX 24 36 1 (rU A (aS (a_row A) p.toNat v)) M' ∧ fr [36] M M') := by
  unfold f_Moment_stand
  refine ok_pos (by omega) (ok_bd (ok_some ⟨x_row w hC (fun i hi => ?_) (fr_ms (by decide)), fr_ms (by decide)⟩))
  rw [msc, aSn, aSn]
  by_cases e : i = p.toNat
  · rw [if_pos e, if_pos e]
  · rw [if_neg e, if_neg e]; exact hC.2.1 i hi
theorem x_turns {x : Int} (hA : WF A) (hC : CX 24 36 1 A M) (hx : M 0 14 = x) (h : 0 ≤ x ∧ x < 200000) (h0 : A 0 ≠ 0) (h1 : A 1 ≠ 0) :
    ok (f_X_turns M) (fun y => ∃ A', TN (t_k x) (t_f A x) (t_s A x) A A' y.1 ∧ CX 24 36 1 A' y.2 ∧ y.2 0 14 = nx (nx (nx x)) ∧ fr [0, 36] M y.2) := by
  have w0 := hA.1
  have w1 := hA.2.1
  have n1 := nx_b x
  have n2 := nx_b (nx x)
  unfold f_X_turns
  refine ok_be (x_draw hx h (by omega)) ?_
  have g1 : pm_ms M 0 14 (nx x) 0 14 = nx x := by rw [msc, aSn, if_pos rfl]
  have gt : ∀ (M' : pm_M) (v : Int), pm_ms M' 0 14 v 24 = M' 24 := fun M' v => by rw [msn, if_neg (by omega)]
  have gf1 : fr [0] M (pm_ms M 0 14 (nx x)) := fr_ms (by decide)
  have e24 : (pm_ms M 0 14 (nx x)) 24 = M 24 := gt _ _
  dsimp only
  generalize pm_ms M 0 14 (nx x) = M1 at g1 gf1 e24 ⊢
  have hp : M1 24 10 = A 0 := by rw [e24]; exact hC.1.1.1
  have hh : M1 24 11 = A 1 := by rw [e24]; exact hC.1.1.2.1
  have hk : t_k x = 0 ∨ t_k x = 1 ∨ t_k x = 2 := by unfold t_k; omega
  have fin : ∀ (f : Int) (M2 : pm_M), f = t_f A x → M2 0 14 = nx (nx x) → fr [0] M M2 → M2 24 = M 24 →
      ok ((f_Told_plinths M2).bind fun r => (f_X_draw r M2).bind fun d2 =>
        if t_k x = 0 then ((f_X_canPut f d2.1 d2.2).bind fun v => if v = 0 then some (0, d2.2) else (f_Moment_stand d2.1 f d2.2).bind fun M5 => some (1, M5))
        else if t_k x = 1 then ((f_X_canChange f d2.1 d2.2).bind fun v => if v = 0 then some (0, d2.2) else (f_Moment_swap f d2.1 d2.2).bind fun M5 => some (1, M5))
        else ((f_X_canOff f d2.2).bind fun v => if v = 0 then some (0, d2.2) else (f_Moment_stand f (-1) d2.2).bind fun M5 => some (1, M5)))
        (fun y => ∃ A', TN (t_k x) (t_f A x) (t_s A x) A A' y.1 ∧ CX 24 36 1 A' y.2 ∧ y.2 0 14 = nx (nx (nx x)) ∧ fr [0, 36] M y.2) := by
    intro f M2 hf hM2 hfr h24
    unfold f_Told_plinths
    refine ok_be (congrArg some (show M2 24 10 = A 0 by rw [h24]; exact hC.1.1.1)) ?_
    refine ok_be (x_draw hM2 (by omega) (by omega)) ?_
    have fr3 : fr [0] M (pm_ms M2 0 14 (nx (nx (nx x)))) := fr_2 hfr (fr_ms (by decide))
    have g3 : pm_ms M2 0 14 (nx (nx (nx x))) 0 14 = nx (nx (nx x)) := by rw [msc, aSn, if_pos rfl]
    dsimp only
    generalize pm_ms M2 0 14 (nx (nx (nx x))) = M3 at fr3 g3 ⊢
    have c3 : CX 24 36 1 A M3 := CX_fr fr3 (by decide) hC
    rw [show nx (nx x) % A 0 = t_s A x from rfl]
    have done : ∀ (A' : Nat → Int) (M5 : pm_M), TN (t_k x) (t_f A x) (t_s A x) A A' 1 → CX 24 36 1 A' M5 → fr [36] M3 M5 → ok (some ((1 : Int), M5)) (fun y => ∃ A', TN (t_k x) (t_f A x) (t_s A x) A A' y.1 ∧ CX 24 36 1 A' y.2 ∧ y.2 0 14 = nx (nx (nx x)) ∧ fr [0, 36] M y.2) := fun A' M5 a1 a2 a3 => ok_some ⟨A', a1, a2, by show M5 0 14 = _; rw [a3 0 (by decide)]; exact g3, fr_tr fr3 a3 (by decide) (by decide)⟩
    have not : TN (t_k x) (t_f A x) (t_s A x) A A 0 → ok (some ((0 : Int), M3)) (fun y => ∃ A', TN (t_k x) (t_f A x) (t_s A x) A A' y.1 ∧ CX 24 36 1 A' y.2 ∧ y.2 0 14 = nx (nx (nx x)) ∧ fr [0, 36] M y.2) := fun a1 => ok_some ⟨A, a1, c3, g3, fr_mo fr3 (by decide)⟩
    rw [hf]
    refine ok_ite (fun k0 => ?_) (fun k0 => ok_ite (fun k1 => ?_) (fun k1 => ?_))
    · refine ok_bind (x_canPut hA c3 _ _) (fun v hv => ?_)
      rcases hv with ⟨hc, rfl⟩ | ⟨hc, rfl⟩
      · have h2 := hc.2.1
        exact ok_neg (by omega) (ok_bind (x_stand (by omega) c3 (by omega) _) (fun M5 h5 => done _ M5 (Or.inl ⟨k0, hc, rfl, rfl⟩) h5.1 h5.2))
      · exact ok_pos rfl (not (Or.inr (Or.inr (Or.inr ⟨fun z => hc z.2, fun z => by omega, fun z => by omega, rfl, rfl⟩))))
    · refine ok_bind (x_canChange hA c3 _ _) (fun v hv => ?_)
      rcases hv with ⟨hc, rfl⟩ | ⟨hc, rfl⟩
      · have h2 := hc.1
        have h3 := hc.2.1
        exact ok_neg (by omega) (ok_bind (x_swap (by omega) c3 (by omega) (by omega)) (fun M5 h5 => done _ M5 (Or.inr (Or.inl ⟨k1, hc, rfl, rfl⟩)) h5.1 h5.2))
      · exact ok_pos rfl (not (Or.inr (Or.inr (Or.inr ⟨fun z => by omega, fun z => hc z.2, fun z => by omega, rfl, rfl⟩))))
    · have k2 : t_k x = 2 := by omega
      refine ok_bind (x_canOff hA c3 _) (fun v hv => ?_)
      rcases hv with ⟨hc, rfl⟩ | ⟨hc, rfl⟩
      · have h2 := hc.1
        exact ok_neg (by omega) (ok_bind (x_stand (by omega) c3 (by omega) _) (fun M5 h5 => done _ M5 (Or.inr (Or.inr (Or.inl ⟨k2, hc, rfl, rfl⟩))) h5.1 h5.2))
      · exact ok_pos rfl (not (Or.inr (Or.inr (Or.inr ⟨fun z => by omega, fun z => by omega, fun z => hc z.2, rfl, rfl⟩))))
  rw [show x % 3 = t_k x from rfl]
  refine ok_ite (fun k0 => ?_) (fun k0 => ?_)
  · unfold f_Told_heads
    refine ok_be (congrArg some hh) ?_
    refine ok_be (x_draw g1 (by omega) (by omega)) ?_
    have := fin (nx x % A 1) (pm_ms M1 0 14 (nx (nx x))) (by unfold t_f; rw [if_pos k0]) (by rw [msc, aSn, if_pos rfl]) (fr_2 gf1 (fr_ms (by decide))) (by rw [gt, e24])
    simp only [k0, if_true] at this ⊢
    simpa using this
  · refine ok_be (show f_Told_plinths M1 = some (A 0) from congrArg some hp) ?_
    refine ok_be (x_draw g1 (by omega) (by omega)) ?_
    have := fin (nx x % A 0) (pm_ms M1 0 14 (nx (nx x))) (by unfold t_f; rw [if_neg k0]) (by rw [msc, aSn, if_pos rfl]) (fr_2 gf1 (fr_ms (by decide))) (by rw [gt, e24])
    rcases hk with h0' | h1' | h2'
    · exact absurd h0' k0
    · simp only [h1'] at this ⊢
      simpa using this
    · simp only [h2'] at this ⊢
      simpa using this
end
