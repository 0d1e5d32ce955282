/-! SUMS AND PRODUCTS -/
section
variable {t0 N : Nat} {X Q : pm_M}
theorem sg_j (b : Int) : (sg b = 28 ↔ b = 43) ∧ (sg b = 29 ↔ b = 45) ∧ (sg b = 30 ↔ b = 42) ∧ (sg b = 31 ↔ b = 47) := by
  unfold sg
  repeat' split
  all_goals omega
theorem ck_wd {v : Int} (hK : TK N X Q) (hv : 0 ≤ v ∧ v ≤ 23) : X 66 3 = v ↔ (Q 87 16 = 1 ∧ Q 87 17 = v) := by
  obtain ⟨k1, _, _, k4, k5, _⟩ := hK
  rw [k1]
  have := sg_ge (Q 87 17)
  unfold ckd
  by_cases z0 : Q 87 16 = 0
  · rw [if_pos z0]; omega
  · rw [if_neg z0]
    by_cases z1 : Q 87 16 = 1
    · rw [if_pos z1]; exact ⟨fun h => ⟨z1, h⟩, fun h => h.2⟩
    · rw [if_neg z1]
      by_cases z2 : Q 87 16 = 2
      · rw [if_pos z2]; omega
      · rw [if_neg z2]
        by_cases z3 : Q 87 16 = 3
        · rw [if_pos z3]; omega
        · rw [if_neg z3]; omega
theorem q_goW {o : Nat} {f x : Int} {frs : List Int} {ws ql : List (Int × Int)} (h : RS Q o (f :: frs) ws ql) (hl : frs.length < 40) (h16 : Q 87 16 = 3) (hx : Q 87 17 = x) (hA : isA x) : f_Q_goesOn Q = (f_Q_waitsFor x Q).bind fun M => some (pm_ms M 87 27 1) := by
  unfold f_Q_goesOn
  rw [q_top h hl, ob, if_pos h16, hx]
  rcases hA with e | e | e | e <;> subst e
  · rw [if_pos rfl]; rfl
  · rw [if_neg (by decide), if_pos rfl]; rfl
  · rw [if_neg (by decide), if_neg (by decide), if_pos rfl]; rfl
  · rw [if_neg (by decide), if_neg (by decide), if_neg (by decide), if_pos rfl]; rfl
def JT (_ _ : Int) : Prop := True
theorem jn4 {o : Nat} {f : Int} {frs : List Int} (hl : frs.length < 40) : JN N 4 4 1 2 false JT J4 o (f :: frs) := by
  intro X Q ws ql hK hR h27 _
  have hs := sg_j (Q 87 17)
  have e30 := ck_sg hK (v := 30) (by omega)
  have e31 := ck_sg hK (v := 31) (by omega)
  have h18 : Q 87 18 = 0 := hR.2.2.2.2.2.2.2.2
  have hj : f_Reader_joins 4 X = if X 66 3 = 30 then some 1 else if X 66 3 = 31 then some 1 else some 0 := rfl
  rw [hj]
  by_cases z1 : Q 87 16 = 3 ∧ Q 87 17 = 42
  · have e : X 66 3 = 30 := by rw [e30]; exact ⟨z1.1, hs.2.2.1.mpr z1.2⟩
    rw [e, if_pos rfl]
    exact Or.inr ⟨42, rfl, by decide, by decide, by decide, by omega, Or.inl ⟨rfl, by unfold isA; omega⟩, fun n => by rw [L_2 n h18 h27, q_goW hR hl z1.1 z1.2 (by unfold isA; omega)]⟩
  · have e : X 66 3 ≠ 30 := fun e => z1 (by have := e30.mp e; exact ⟨this.1, hs.2.2.1.mp this.2⟩)
    rw [if_neg e]
    by_cases z2 : Q 87 16 = 3 ∧ Q 87 17 = 47
    · have e : X 66 3 = 31 := by rw [e31]; exact ⟨z2.1, hs.2.2.2.mpr z2.2⟩
      rw [e, if_pos rfl]
      exact Or.inr ⟨47, rfl, by decide, by decide, by decide, by omega, Or.inl ⟨rfl, by unfold isA; omega⟩, fun n => by rw [L_2 n h18 h27, q_goW hR hl z2.1 z2.2 (by unfold isA; omega)]⟩
    · have e : X 66 3 ≠ 31 := fun e => z2 (by have := e31.mp e; exact ⟨this.1, hs.2.2.2.mp this.2⟩)
      rw [if_neg e]
      exact Or.inl ⟨rfl, by unfold J4; omega⟩
theorem jn3 {o : Nat} {f : Int} {frs : List Int} (hl : frs.length < 40) : JN N 3 3 1 2 false J4 J3 o (f :: frs) := by
  intro X Q ws ql hK hR h27 hJ
  have hs := sg_j (Q 87 17)
  have e30 := ck_sg hK (v := 28) (by omega)
  have e31 := ck_sg hK (v := 29) (by omega)
  have h18 : Q 87 18 = 0 := hR.2.2.2.2.2.2.2.2
  have hj : f_Reader_joins 3 X = if X 66 3 = 28 then some 1 else if X 66 3 = 29 then some 1 else some 0 := rfl
  rw [hj]
  by_cases z1 : Q 87 16 = 3 ∧ Q 87 17 = 43
  · have e : X 66 3 = 28 := by rw [e30]; exact ⟨z1.1, hs.1.mpr z1.2⟩
    rw [e, if_pos rfl]
    exact Or.inr ⟨43, rfl, by decide, by decide, by decide, by omega, Or.inl ⟨rfl, by unfold isA; omega⟩, fun n => by rw [L_2 n h18 h27, q_goW hR hl z1.1 z1.2 (by unfold isA; omega)]⟩
  · have e : X 66 3 ≠ 28 := fun e => z1 (by have := e30.mp e; exact ⟨this.1, hs.1.mp this.2⟩)
    rw [if_neg e]
    by_cases z2 : Q 87 16 = 3 ∧ Q 87 17 = 45
    · have e : X 66 3 = 29 := by rw [e31]; exact ⟨z2.1, hs.2.1.mpr z2.2⟩
      rw [e, if_pos rfl]
      exact Or.inr ⟨45, rfl, by decide, by decide, by decide, by omega, Or.inl ⟨rfl, by unfold isA; omega⟩, fun n => by rw [L_2 n h18 h27, q_goW hR hl z2.1 z2.2 (by unfold isA; omega)]⟩
    · have e : X 66 3 ≠ 29 := fun e => z2 (by have := e31.mp e; exact ⟨this.1, hs.2.1.mp this.2⟩)
      rw [if_neg e]
      exact Or.inl ⟨rfl, by unfold J3; unfold J4 at hJ; omega⟩
/-- one is over, no minus around it -/
theorem q_over_n {o : Nat} {f : Int} {frs : List Int} {ws ql : List (Int × Int)} (h : RS Q o (f :: frs) ws ql) (hl : frs.length < 40) (hf : f ≠ 7) : f_Q_oneIsOver Q = some (pm_ms Q 87 27 2) := by
  unfold f_Q_oneIsOver
  rw [show pm_F = 999999999 + 1 from rfl, f_Q_oneIsOver_L0, q_top h hl, ob, if_neg hf, ob, pbd]
theorem SM_mo {T : pm_M → Option (Int × pm_M)} {E : pm_M → pm_M → Nat → Prop} {st L : Int} {P : List (Int × Int) → Prop} {o sb sb' : Nat} {frs : List Int} {ws : List (Int × Int)} {bb : Bool} {C : List Nat} (h : SM t0 N T E st P o frs ws L bb C sb) (hs : sb' ≤ sb) : SM t0 N T E st P o frs ws L bb C sb' :=
  fun X Q cl ql s p h1 h2 h3 h4 h5 h6 h7 h8 => h X Q cl ql s p h1 h2 h3 h4 h5 h6 h7 (by omega)
theorem SM_wr {T T' : pm_M → Option (Int × pm_M)} {E : pm_M → pm_M → Nat → Prop} {st L : Int} {P : List (Int × Int) → Prop} {o sb : Nat} {frs : List Int} {ws : List (Int × Int)} {bb : Bool} {C : List Nat} (h : SM t0 N T E st P o frs ws L bb C sb) (hT : ∀ X, T' X = (T X).bind fun r => if r.1 = 0 ∨ r.1 = 1 then some (r.1, r.2) else none) : SM t0 N T' E st P o frs ws L bb C sb := by
  intro X Q cl ql s p h1 h2 h3 h4 h5 h6 h7 h8
  rw [hT]
  refine ok_bind (h X Q cl ql s p h1 h2 h3 h4 h5 h6 h7 h8) (fun y hy => ?_)
  have e : y.1 = 0 ∨ y.1 = 1 := by
    rcases hy with hy | hy
    · exact Or.inl hy.1
    · exact Or.inr hy.1
  rw [if_pos e]
  exact ok_some hy
theorem s_part5 {o k sb : Nat} {f : Int} {frs : List Int} {ws : List (Int × Int)} {L : Int} (hl : frs.length < 40) (hf : f ≠ 7) (h : SM t0 N (fun X => f_rd k 3 (o : Int) 0 X) E1 1 (fun pend => pend = []) o (f :: frs) ws L false CA sb) : SM t0 N (fun X => f_rd (k + 1) 1 5 (o : Int) X) (Ej 2 JT) 1 (Pw 5 0 (f :: frs).length) o (f :: frs) ws L false CA sb := by
  have h' : SM t0 N (fun X => f_rd (k + 1) 1 5 (o : Int) X) E1 1 (fun pend => pend = []) o (f :: frs) ws L false CA sb := SM_wr h (fun X => rfl)
  intro X Q cl ql s p h1 h2 h3 h4 h5 h6 h7 h8
  refine ok_mono (h' X Q cl ql s p h1 h2 h3 h4 h5 h6 h7 h8) (fun y hy => ?_)
  rcases hy with hy | hy
  · exact Or.inl hy
  · obtain ⟨u1, u2, u3, u4, lq, pend, Q', c, p', d1, d2, d3, d4, d5, d6, d7, d8, d9, d10⟩ := hy
    have d7 : pend = [] := d7
    have eo := q_over_n d5 hl hf
    generalize hQ2 : pm_ms Q' 87 27 2 = Q2 at eo
    have f2 : fz [87] [27] Q' Q2 := by rw [← hQ2]; exact fz_87 (by decide) (by decide)
    refine Or.inr ⟨u1, u2, u3, u4, lq, pend, Q2, c, p', by rw [f2.2 15 (by decide)]; exact d1, d2, d3, ⟨?_, ?_, d4.2.2.1, ?_⟩, ?_, d6, ⟨by rw [d7]; exact Nat.le_refl _, fun z hz => by rw [d7] at hz; cases hz⟩, d8, ⟨by rw [← hQ2, ms_at], trivial, fun n => ?_⟩, ?_⟩
    · unfold TPX; rw [f2.1 90 (by decide), f2.2 13 (by decide)]; exact d4.1
    · exact TK_mo d4.2.1 rfl (f2.2 14 (by decide)) (f2.2 15 (by decide)) (f2.2 16 (by decide)) (f2.2 17 (by decide))
    · rw [f2.2 29 (by decide)]; exact d4.2.2.2
    · exact RS_fz (C := [87]) (S := [27]) d5 f2 (by decide) (by decide) (by decide) (by decide) (by decide) (by decide) (by decide) (by decide) (by decide) (by decide)
    · rw [d9, eo, ob]
    · exact fz_tr d10 f2 (idm _) (idm _) (by decide) (by decide)
/-- a sum, given one -/
theorem s_sum {o K : Nat} {f L : Int} {frs : List Int} (ht : tx4 t0) (hl : frs.length < 39) (ho : o ≤ 8) (hf : f ≠ 7)
    (h1 : ∀ ws', (∀ c ∈ ws', c.2 ≤ ((f :: frs).length : Int)) → ws'.length ≤ 2 * o + 4 → SM t0 N (fun X => f_rd K 3 (o : Int) 0 X) E1 1 (fun pend => pend = []) o (f :: frs) ws' L false CA (2 * o + 5))
    (ws : List (Int × Int)) (hb : bar 3 (f :: frs).length ws) (hwd : ∀ c ∈ ws, c.2 ≤ ((f :: frs).length : Int)) (hwl : ws.length ≤ 2 * o + 2) :
    SM t0 N (fun X => f_rd (K + 4) 0 3 (o : Int) X) (Ej 2 J3) 1 (Pw 3 2 (f :: frs).length) o (f :: frs) ws L false CA (2 * o + 3) := by
  refine s_joined (k := K + 3) (d := 1) (wb := 2 * o + 2) (Jc := J4) ht (by omega) (by decide) (by decide) (by omega) (by omega) (jn3 (by omega)) ?_ ws hb hwd hwl
  intro ws2 hb2 hwd2 hwl2
  have h4 : SM t0 N (fun X => f_rd (K + 2) 0 4 (o : Int) X) (Ej 2 J4) 1 (Pw 4 1 (f :: frs).length) o (f :: frs) ws2 L false CA (2 * o + 3 + 1) := by
    refine s_joined (k := K + 1) (d := 0) (wb := 2 * o + 3) (Jc := JT) ht (by omega) (by decide) (by decide) (by omega) (by omega) (jn4 (by omega)) ?_ ws2 hb2 hwd2 hwl2
    intro ws3 hb3 hwd3 hwl3
    exact s_part5 (by omega) hf (h1 ws3 hwd3 (by omega))
  exact SM_wr h4 (fun X => rfl)
/-- one, however deep -/
theorem s_ones {L : Int} (ht : tx4 t0) : ∀ (e o K : Nat) (frs : List Int) (ws : List (Int × Int)), o + e = 8 → 5 * e + 1 ≤ K → frs.length ≤ o + 2 → (∀ c ∈ ws, c.2 ≤ (frs.length : Int)) → ws.length ≤ 2 * o + 4 → SM t0 N (fun X => f_rd K 3 (o : Int) 0 X) E1 1 (fun pend => pend = []) o frs ws L false CA (2 * o + 5) := by
  intro e
  induction e with
  | zero =>
    intro o K frs ws he hK hf hwd hwl
    obtain ⟨K, rfl⟩ : ∃ a, K = a + 1 := ⟨K - 1, by omega⟩
    exact s_one ht (by omega) (by omega) (by omega) hwd (by omega) (fun z => by omega) (fun z => by omega)
  | succ e ih =>
    intro o K frs ws he hK hf hwd hwl
    obtain ⟨K, rfl⟩ : ∃ a, K = a + 1 := ⟨K - 1, by omega⟩
    refine s_one ht (by omega) (by omega) (by omega) hwd (by omega) (fun _ => ?_) (fun _ => ?_)
    · obtain ⟨J, rfl⟩ : ∃ a, K = a + 4 := ⟨K - 4, by omega⟩
      have h3 := s_sum (N := N) (o := o + 1) (K := J) (f := 6) (L := L) (frs := frs) ht (by omega) (by omega) (by decide) (fun ws' hd' hl' => ih (o + 1) J (6 :: frs) ws' (by omega) (by omega) (by rw [List.length_cons]; omega) hd' hl') ws (bar_up hwd) (fun c hc => by have := hwd c hc; rw [List.length_cons]; omega) (by omega)
      exact SM_mo h3 (by omega)
    · exact SM_mo (ih (o + 1) K (7 :: frs) ws (by omega) (by omega) (by rw [List.length_cons]; omega) (fun c hc => by have := hwd c hc; rw [List.length_cons]; omega) (by omega)) (by omega)
/-- a sum, however deep -/
theorem s_sums {L f : Int} {o K : Nat} {frs : List Int} (ht : tx4 t0) (ho : o ≤ 8) (hK : 5 * (8 - o) + 5 ≤ K) (hf : f ≠ 7) (hl : frs.length ≤ o + 1) (ws : List (Int × Int)) (hb : bar 3 (f :: frs).length ws) (hwd : ∀ c ∈ ws, c.2 ≤ ((f :: frs).length : Int)) (hwl : ws.length ≤ 2 * o + 2) :
    SM t0 N (fun X => f_rd K 0 3 (o : Int) X) (Ej 2 J3) 1 (Pw 3 2 (f :: frs).length) o (f :: frs) ws L false CA (2 * o + 3) := by
  obtain ⟨J, rfl⟩ : ∃ a, K = a + 4 := ⟨K - 4, by omega⟩
  exact s_sum ht (by omega) ho hf (fun ws' hd' hl' => s_ones ht (8 - o) o J (f :: frs) ws' (by omega) (by omega) (by rw [List.length_cons]; omega) hd' hl') ws hb hwd hwl
end
