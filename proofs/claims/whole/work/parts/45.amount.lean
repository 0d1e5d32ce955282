/-! WHAT A LAW TELLS: both sides -/
def nmf (A : Nat → Int) (p h : Int) : Nat → Int := fun n =>
  if n = 0 then p else if n = 1 then A (12 + 4 * p.toNat) else if n = 2 then A (13 + 4 * p.toNat) else if n = 3 then A 99 else if n = 4 then a_cl A p.toNat (A 0).toNat
  else if n = 5 then h else if n = 6 then A (42 + 2 * h.toNat) else if n = 7 then A (78 + p.toNat) else if n = 8 then (if A (78 + p.toNat) = h then 1 else 0) else A (86 + h.toNat)
/-- which law may ask of whom -/
def hOK (A : Nat → Int) (L h : Int) : Prop := (L = 3 ∧ h = -1) ∨ (L ≠ 3 ∧ 0 ≤ h ∧ h < A 1)
def cdX (f : Nat → Int) : Nat → List (Int × Int) → Prop
  | _, [] => True
  | k, c :: l => f k = oc c ∧ cdX f (k + 1) l
def cdQ (f g : Nat → Int) : Nat → List (Int × Int) → Prop
  | k, [] => f k = 408
  | k, c :: l => f k = c.1 ∧ g k = c.2 ∧ cdQ f g (k + 1) l
/-- what laws look at is in its bounds -/
def WJ (A : Nat → Int) : Prop :=
  (0 ≤ A 0 ∧ A 0 ≤ 8) ∧ (0 ≤ A 1 ∧ A 1 ≤ 12) ∧ (0 ≤ A 2 ∧ A 2 ≤ 4) ∧ (-1 ≤ A 3 ∧ A 3 < A 2) ∧
  (∀ p, p < 8 → (0 ≤ A (10 + 4 * p) ∧ A (10 + 4 * p) ≤ 99) ∧ (0 ≤ A (11 + 4 * p) ∧ A (11 + 4 * p) ≤ 99) ∧ (0 ≤ A (12 + 4 * p) ∧ A (12 + 4 * p) ≤ 9) ∧ (0 ≤ A (13 + 4 * p) ∧ A (13 + 4 * p) ≤ 9)) ∧
  (∀ h, h < 12 → (0 ≤ A (42 + 2 * h) ∧ A (42 + 2 * h) ≤ 9) ∧ (0 ≤ A (43 + 2 * h) ∧ A (43 + 2 * h) ≤ 3)) ∧
  (∀ p, p < 8 → -1 ≤ A (78 + p) ∧ A (78 + p) ≤ 11) ∧ (∀ h, h < 12 → 0 ≤ A (86 + h) ∧ A (86 + h) ≤ 1000000) ∧ (0 ≤ A 99 ∧ A 99 ≤ 999)
theorem WJ.xy {A : Nat → Int} (h : WJ A) : xyW A := fun p hp => ⟨(h.2.2.2.2.1 p hp).1, (h.2.2.2.2.1 p hp).2.1⟩
def rJ (r : Nat → Int) : Prop := (∀ p, p < 8 → -1 ≤ r (8 + p) ∧ r (8 + p) ≤ 11) ∧ (∀ h, h < 12 → 0 ≤ r (16 + h) ∧ r (16 + h) ≤ 1000000) ∧ (0 ≤ r 29 ∧ r 29 ≤ 999)
theorem WJ_rU {A r : Nat → Int} (hA : WF A) (hr : rJ r) : WJ (rU A r) := by
  obtain ⟨w0, w1, w2, w3, w4, w5, w6, w7, w8, w9, w10⟩ := hA
  obtain ⟨j1, j2, j3⟩ := hr
  have e : ∀ k, k < 70 → rU A r k = A k := fun k hk => rU_o (by omega)
  refine ⟨by rw [e 0 (by omega)]; exact w0, by rw [e 1 (by omega)]; exact w1, by rw [e 2 (by omega)]; exact w2, by rw [e 2 (by omega), e 3 (by omega)]; exact w3, fun p hp => ?_, fun p hp => ?_, fun p hp => ?_, fun p hp => ?_, ?_⟩
  · rw [e (10 + 4 * p) (by omega), e (11 + 4 * p) (by omega), e (12 + 4 * p) (by omega), e (13 + 4 * p) (by omega)]; exact w6 p hp
  · rw [e (42 + 2 * p) (by omega), e (43 + 2 * p) (by omega)]; exact w7 p hp
  · rw [show 78 + p = 70 + (8 + p) by omega, rU_i (by omega)]; exact j1 p hp
  · rw [show 86 + p = 70 + (16 + p) by omega, rU_i (by omega)]; exact j2 p hp
  · rw [show 99 = 70 + 29 by omega, rU_i (by omega)]; exact j3
theorem rW_rJ {P H : Int} {r : Nat → Int} (w : rW P H r) : rJ r := by
  obtain ⟨w1, w2, w3, w4, w5, w6, w7⟩ := w
  exact ⟨w3, fun h hh => by have := w4 h hh; omega, w6⟩
theorem WF.j {A : Nat → Int} (hA : WF A) : WJ A := by
  have := WJ_rU hA (rW_rJ hA.2.2.2.2.2.2.2.2.2.1)
  rw [rU_self] at this
  exact this
section
variable {A : Nat → Int} {M : pm_M} {L p h : Int}
theorem nmf_W (hA : WJ A) (hp : 0 ≤ p ∧ p < A 0) (hh : hOK A L h) : nmW L (nmf A p h) := by
  intro n h9 h3 h4
  obtain ⟨w0, w1, w2, w3, w6, w7, r3, r4, r6⟩ := hA
  have hcl := a_cl_b A p.toNat (A 0).toNat
  have q6 := w6 p.toNat (by omega)
  have q3 := r3 p.toNat (by omega)
  unfold nmf
  by_cases c0 : n = 0
  · rw [if_pos c0]; omega
  rw [if_neg c0]
  by_cases c1 : n = 1
  · rw [if_pos c1]; omega
  rw [if_neg c1]
  by_cases c2 : n = 2
  · rw [if_pos c2]; omega
  rw [if_neg c2]
  by_cases c3 : n = 3
  · rw [if_pos c3]; omega
  rw [if_neg c3]
  by_cases c4 : n = 4
  · rw [if_pos c4]; omega
  rw [if_neg c4]
  have hL : L ≠ 3 := fun z => by have := h3 z; omega
  rcases hh with ⟨z, _⟩ | ⟨_, hh⟩
  · exact absurd z hL
  by_cases c5 : n = 5
  · rw [if_pos c5]; omega
  rw [if_neg c5]
  by_cases c6 : n = 6
  · rw [if_pos c6]; have := w7 h.toNat (by omega); omega
  rw [if_neg c6]
  by_cases c7 : n = 7
  · rw [if_pos c7]; omega
  rw [if_neg c7]
  by_cases c8 : n = 8
  · rw [if_pos c8]; split <;> omega
  rw [if_neg c8]
  have q4 := r4 h.toNat (by omega)
  omega
theorem x_named (hA : WJ A) (hC : CX 24 36 1 A M) (hp : 0 ≤ p ∧ p < A 0) (hh : hOK A L h) {n : Int} (hn : 0 ≤ n ∧ n ≤ 9) (h3 : L = 3 → n ≤ 4) : f_Judge_named (14 + n) p h M = some (nmf A p h n.toNat) := by
  have w0 := hA.1
  have w1 := hA.2.1
  obtain ⟨p', ep⟩ : ∃ p' : Nat, p = p' := ⟨p.toNat, by omega⟩
  subst ep
  have hT := hC.1
  have t6 := hT.2.1 p' (by omega)
  have t7 := hT.2.2.1 p' hp.2
  have hR := hC.2.1
  unfold f_Judge_named nmf
  rw [x_isHd hC.1.1.2.1 h, ob, tn_nat]
  rcases (show n = 0 ∨ n = 1 ∨ n = 2 ∨ n = 3 ∨ n = 4 ∨ n = 5 ∨ n = 6 ∨ n = 7 ∨ n = 8 ∨ n = 9 by omega) with rfl | rfl | rfl | rfl | rfl | rfl | rfl | rfl | rfl | rfl
  · rfl
  · show (f_Told_shadeOf p' M).bind (fun r => some r) = some (A (12 + 4 * p'))
    unfold f_Told_shadeOf
    rw [if_pos (by omega), tn_nat, t6.2.2.1, ob]
  · show (f_Told_viewOf p' M).bind (fun r => some r) = some (A (13 + 4 * p'))
    unfold f_Told_viewOf
    rw [if_pos (by omega), tn_nat, t6.2.2.2, ob]
  · show (f_Moment_day M).bind (fun r => some r) = some (A 99)
    unfold f_Moment_day
    rw [hR 29 (by omega), ob]
  · show (f_Told_closeTo p' M).bind (fun r => some r) = some (a_cl A p' (A 0).toNat)
    unfold f_Told_closeTo
    rw [if_pos (by omega), tn_nat, t7, ob]
  · rfl
  · have hL : L ≠ 3 := fun z => by have := h3 z; omega
    rcases hh with ⟨z, _⟩ | ⟨_, hh⟩
    · exact absurd z hL
    show (if pb h (A 1) = 0 then some 0 else (f_Told_fameOf h M).bind (fun r => some r)) = some (A (42 + 2 * h.toNat))
    rw [pb_1 hh, if_neg (by omega)]
    unfold f_Told_fameOf
    rw [if_pos (by omega), (hT.2.2.2.1 h.toNat (by omega)).1, ob]
  · show (f_Moment_nameAt p' M).bind (fun r => some r) = some (A (78 + p'))
    rw [x_nameAt hR (by omega), ob, tn_nat]
    unfold a_row
    exact congrArg some (congrArg A (by omega))
  · show (f_Moment_nameAt p' M).bind (fun r => if r = h then some 1 else some 0) = some (if A (78 + p') = h then 1 else 0)
    rw [x_nameAt hR (by omega), ob, tn_nat]
    have e : a_row A (8 + p') = A (78 + p') := by unfold a_row; exact congrArg A (by omega)
    rw [e]
    split <;> rfl
  · have hL : L ≠ 3 := fun z => by have := h3 z; omega
    rcases hh with ⟨z, _⟩ | ⟨_, hh⟩
    · exact absurd z hL
    show (if pb h (A 1) = 0 then some 0 else (f_Moment_debt h M).bind (fun r => some r)) = some (A (86 + h.toNat))
    rw [pb_1 hh, if_neg (by omega), x_debt hR (by omega), ob]
    unfold a_row
    exact congrArg some (congrArg A (by omega))
theorem oc_b {c : Int × Int} {s s' : List Bool} (h : tr L c s s') : 0 ≤ oc c ∧ oc c ≤ 10040 := by
  unfold oc
  rcases h.2 with h | h | h | h | h | h | h
  · rw [if_pos h.1]; omega
  · rw [if_neg (by omega), if_pos h.1]; omega
  all_goals
    have hn : c.1 ≠ 400 ∧ c.1 ≠ 401 := by
      have h1 := h.1
      first
        | exact ⟨by omega, by omega⟩
        | exact ⟨(isA_n h1).1, (isA_n h1).2.1⟩
        | exact ⟨(isC_n h1).1, (isC_n h1).2.1⟩
        | exact ⟨(isB_n h1).1, (isB_n h1).2.1⟩
    rw [if_neg hn.1, if_neg hn.2]
    repeat' split
    all_goals omega
theorem tk_2 {o v : Int} (h : isA o ∨ isC o ∨ isB o) : f_Judge_takes (oc (o, v) - 10000) M = some 2 := by
  rcases h with (rfl | rfl | rfl | rfl) | (rfl | rfl | rfl | rfl | rfl | rfl) | (rfl | rfl) <;> rfl
theorem tk_0 {k : Int} (h : k < 24) (h1 : k ≠ 11 ∧ k ≠ 12 ∧ k ≠ 13) : f_Judge_takes k M = some 0 := by
  unfold f_Judge_takes
  rw [if_neg h1.2.2, if_neg (by omega), if_neg h1.1, if_neg h1.2.1, if_pos h]
theorem x_reckL (hA : WJ A) {c : Int} {t0 : Nat} (ht : t0 + 5 < 65 ∧ 40 ≤ t0) (hc : 0 ≤ c ∧ c < 24) (hp : 0 ≤ p ∧ p < A 0) (hh : hOK A L h) : ∀ (l : List (Int × Int)) (s s' : List Bool) (vs : List Int) (n k : Nat) (M : pm_M), CX 24 36 1 A M → trs L l s s' → vt s vs → s.length ≤ 40 → stk (M 65) vs → cdX (M (t0 + 1 + 4)) k l → M (t0 + 1 + 2) c.toNat = ((k + l.length : Nat) : Int) → k + l.length ≤ 300 → l.length < n →
    ok (f_Judge_reckon_L10 t0 n c p h (vs.length : Int) k M) (fun e => ∃ M', e = .inr (((evl (nmf A p h) l vs).length : Int), M') ∧ stk (M' 65) (evl (nmf A p h) l vs) ∧ fr [65] M M') := by
  intro l
  induction l with
  | nil =>
    intro s s' vs n k M hC ht' hv hs hk hx h2 h3 hn
    cases n with
    | zero => omega
    | succ n =>
      unfold f_Judge_reckon_L10 f_Text_second
      rw [if_pos hc, h2]
      exact ok_be rfl (ok_pos (by simp) (ok_some ⟨M, rfl, hk, fr_rf _ _⟩))
  | cons q l ih =>
    intro s s' vs n k M hC ht' hv hs hk hx h2 h3 hn
    cases n with
    | zero => simp at hn
    | succ n =>
      obtain ⟨m, hm1, hm2⟩ := ht'
      rw [List.length_cons] at h2 h3 hn
      have hlen := vt_len s vs hv
      have hv' := ev1_vt (nmf_W hA hp hh) hm1 hv
      have ho := oc_b hm1
      unfold f_Judge_reckon_L10 f_Text_second f_Text_codeAt
      rw [if_pos hc, h2]
      refine ok_be rfl (ok_neg (by omega) ?_)
      rw [if_pos (by omega), tn_nat, hx.1]
      refine ok_be rfl ?_
      rw [i_sb_eq (a := oc q) (by omega)]
      have step : ∀ (j : Nat) (x : Int), x :: (ev1 (nmf A p h) q vs).tail = ev1 (nmf A p h) q vs → j = (ev1 (nmf A p h) q vs).tail.length → stk (M 65) (ev1 (nmf A p h) q vs).tail → ok (f_Judge_reckon_L10 t0 n c p h (i_ad (j : Int) 1) (i_ad (k : Int) 1) (pm_ms M 65 j x)) (fun e => ∃ M', e = .inr (((evl (nmf A p h) (q :: l) vs).length : Int), M') ∧ stk (M' 65) (evl (nmf A p h) (q :: l) vs) ∧ fr [65] M M') := by
        intro j x hx2 hj hs2
        have hl' := vt_len _ _ hv'
        have hmlen : m.length ≤ 40 := hm1.1
        have e1 : (ev1 (nmf A p h) q vs).length = j + 1 := by rw [← hx2, List.length_cons, hj]
        have fr1 : fr [65] M (pm_ms M 65 j x) := fr_ms (by decide)
        have := ih m s' (ev1 (nmf A p h) q vs) n (k + 1) (pm_ms M 65 j x) (CX_fr fr1 (by decide) hC) hm2 hv' hmlen (by
            rw [msc, ← hx2, hj]; exact stk_push hs2) (by
            rw [fr1 (t0 + 1 + 4) (by simp; omega)]; exact hx.2) (by
            rw [fr1 (t0 + 1 + 2) (by simp; omega), h2]; congr 1; omega) (by omega) (by omega)
        rw [i_ad_eq (by omega), i_ad_eq (by omega)]
        rw [e1] at this
        refine ok_mono this (fun e he => ?_)
        obtain ⟨M', h1, h2, h3⟩ := he
        exact ⟨M', h1, h2, fr_2 fr1 h3⟩
      rcases tr_cases hm1 hv with ⟨h1, h21, rfl⟩ | ⟨h1, h21, h31, h41, rfl⟩ | ⟨v, r, t, rfl, htt, hb, h5⟩ | ⟨a, b, r, t, rfl, htt, ha, hb, h5⟩
      · have eo : oc q = q.2 := by unfold oc; rw [if_pos h1]
        have hm := hm1.1
        rw [List.length_cons] at hm
        rw [eo]
        refine ok_be (tk_0 (by omega) (by omega)) (ok_neg (by omega) ?_)
        rw [i_sb_eq (a := (vs.length : Int)) (by omega), show (vs.length : Int) - 0 = (vs.length : Int) by omega, tn_nat]
        refine ok_pos (by omega) (ok_neg (by omega) (ok_neg (by omega) (ok_neg (by omega) (ok_pos (by omega) (ok_bd ?_)))))
        rw [ev1_400 h1] at step
        exact step vs.length q.2 rfl rfl hk
      · have eo : oc q = 10014 + q.2 := by unfold oc; rw [if_neg (by omega), if_pos h1]
        have hm := hm1.1
        rw [List.length_cons] at hm
        rw [eo, show 10014 + q.2 - 10000 = 14 + q.2 by omega]
        refine ok_be (tk_0 (by omega) (by omega)) (ok_neg (by omega) ?_)
        rw [i_sb_eq (a := (vs.length : Int)) (by omega), show (vs.length : Int) - 0 = (vs.length : Int) by omega, tn_nat]
        refine ok_pos (by omega) (ok_neg (by omega) (ok_neg (by omega) (ok_pos (by omega) (ok_be (x_named hA hC hp hh h21 h31) (ok_pos (by omega) (ok_bd ?_))))))
        rw [ev1_401 h1] at step
        exact step vs.length _ rfl rfl hk
      · rw [List.length_cons] at hlen
        have hr := vt_len t r htt
        rcases h5 with ⟨h1, rfl, rfl⟩ | ⟨h1, rfl, rfl, h01⟩
        · have eo : oc q = 10040 := by
            obtain ⟨q1, q2⟩ := q
            have h1' : q1 = 402 := h1
            subst h1'; rfl
          rw [List.length_cons] at hs
          rw [eo, List.length_cons]
          refine ok_be rfl (ok_neg (by omega) ?_)
          rw [i_sb_eq (a := ((r.length + 1 : Nat) : Int)) (by omega), show ((r.length + 1 : Nat) : Int) - 1 = (r.length : Int) by omega, tn_nat]
          refine ok_pos (by omega) (ok_neg (by omega) (ok_pos rfl (ok_neg (by omega) (ok_pos (by omega) (ok_pos (by omega) (ok_bd ?_))))))
          rw [hk.1, i_ng_eq (by omega)]
          rw [ev1_402 h1] at step
          exact step r.length _ rfl rfl hk.2
        · have eo : oc q = 10013 := by
            obtain ⟨q1, q2⟩ := q
            have h1' : q1 = 405 := h1
            subst h1'; rfl
          rw [List.length_cons] at hs
          rw [eo, List.length_cons]
          refine ok_be rfl (ok_neg (by omega) ?_)
          rw [i_sb_eq (a := ((r.length + 1 : Nat) : Int)) (by omega), show ((r.length + 1 : Nat) : Int) - 1 = (r.length : Int) by omega, tn_nat]
          refine ok_pos (by omega) (ok_neg (by omega) (ok_pos rfl (ok_pos (by omega) (ok_pos (by omega) (ok_pos (by omega) (ok_bd ?_))))))
          rw [hk.1, i_sb_eq (by omega)]
          rw [ev1_405 h1] at step
          exact step r.length _ rfl rfl hk.2
      · rw [List.length_cons, List.length_cons] at hlen
        have hr := vt_len t r htt
        obtain ⟨o, v⟩ := q
        have hk3 : (isA o ∨ isC o ∨ isB o) ∧ (isA o ∨ isC o ∨ (isB o ∧ (a = 0 ∨ a = 1) ∧ (b = 0 ∨ b = 1))) ∧ (o ≠ 400 ∧ o ≠ 401 ∧ o ≠ 402 ∧ o ≠ 405) := by
          rcases h5 with ⟨h1, _⟩ | ⟨h1, _⟩ | ⟨h1, _, _, h6⟩
          · have := isA_n h1; exact ⟨Or.inl h1, Or.inl h1, this.1, this.2.1, this.2.2.1, this.2.2.2.1⟩
          · have := isC_n h1; exact ⟨Or.inr (Or.inl h1), Or.inr (Or.inl h1), this.1, this.2.1, this.2.2.1, this.2.2.2.1⟩
          · have := isB_n h1; exact ⟨Or.inr (Or.inr h1), Or.inr (Or.inr ⟨h1, h6⟩), this.1, this.2.1, this.2.2.1, this.2.2.2.1⟩
        rw [List.length_cons, List.length_cons]
        refine ok_be (tk_2 hk3.1) (ok_neg (by omega) ?_)
        rw [i_sb_eq (a := ((r.length + 1 + 1 : Nat) : Int)) (by omega), show ((r.length + 1 + 1 : Nat) : Int) - 2 = (r.length : Int) by omega, tn_nat, i_ad_eq (a := (r.length : Int)) (b := 1) (by omega), show ((r.length : Int) + 1).toNat = r.length + 1 by omega]
        have k1 : M 65 (r.length + 1) = b := hk.1
        have k2 : M 65 r.length = a := hk.2.1
        rw [k1, k2]
        refine ok_pos (by omega) (ok_pos rfl (ok_pos (by omega) (ok_pos (by omega) (ok_be (x_joined hk3.2.1 ha hb) (ok_pos (by omega) (ok_bd ?_))))))
        rw [ev1_2 hk3.2.2] at step
        have := step r.length (op2 o a b) rfl rfl hk.2.2
        rw [i_ad_eq (a := (r.length : Int)) (by omega)] at this
        exact this
end
