/-! CLAUSES: pictures of the texts under way, the end of a clause -/
def gy (t0 : Nat) (X X' : pm_M) : Prop := fr [66, t0, t0 + 1 + 0, t0 + 1 + 1, t0 + 1 + 2, t0 + 1 + 3, t0 + 5] X X' ∧ X' 66 1 = X 66 1
def CD : List Nat := [87, 98, 99, 100, 101, 102, 103, 104, 105, 106, 107]
def SD : List Nat := [14, 15, 16, 17, 20, 21, 24, 27, 28, 29, 34]
def SDF : List Nat := [14, 15, 16, 17, 18, 19, 20, 21, 24, 27, 28, 29, 34]
def CK (t0 : Nat) (X Q : pm_M) (nc : Nat) : Prop := X t0 5 = nc ∧ Q 87 28 = nc ∧ ∀ c : Nat, c < nc → X (t0 + 1 + 0) c = Q 102 c ∧ (0 ≤ Q 102 c ∧ Q 102 c ≤ 8) ∧ (5 ≤ Q 102 c → X (t0 + 1 + 1) c = Q 104 c ∧ X (t0 + 1 + 2) c = Q 105 c)
def CLw (t0 : Nat) (X Q : pm_M) (nc : Nat) (cl ql : List (Int × Int)) (L : Nat) : Prop :=
  (X (t0 + 1 + 3) L = -1 ∧ ∀ c : Nat, c < nc → Q 102 c ≠ (L : Int)) ∨
  ∃ (c : Nat) (l a b a' b' : List (Int × Int)), c < nc ∧ X (t0 + 1 + 3) L = (c : Int) ∧ (∀ c' : Nat, c' < nc → (Q 102 c' = (L : Int) ↔ c' = c)) ∧ cl = a ++ l ++ b ∧ X (t0 + 1 + 1) c = (a.length : Int) ∧ X (t0 + 1 + 2) c = ((a.length + l.length : Nat) : Int) ∧ ql = a' ++ l ++ (408, 0) :: b' ∧ Q 103 c = (a'.length : Int) ∧ trs (L : Int) l [] [decide (L = 4)]
def CLS (t0 N : Nat) (X Q : pm_M) (nc : Nat) (cl ql : List (Int × Int)) (p : Nat) : Prop :=
  TPX X Q N ∧ TK N X Q ∧ XS X t0 cl ∧ RS Q 0 [] [] ql ∧ Q 87 27 = 4 ∧ CK t0 X Q nc ∧ (∀ L, L < 5 → CLw t0 X Q nc cl ql L) ∧ Q 87 15 = p ∧ cl.length ≤ p ∧ ql.length ≤ p + nc ∧ nc ≤ 24
def FLc (t0 N : Nat) (X Q : pm_M) (p : Nat) (y : Int × pm_M) : Prop :=
  y.1 = 0 ∧ gy t0 X y.2 ∧ ∃ (c : Nat) (Q' : pm_M), c ≤ 3 * (N - p) + 6 ∧ (∀ n, f_Q_text_L74 (n + c) Q = some Q') ∧ Q' 87 18 = y.2 66 7 ∧ Q' 87 19 = y.2 66 8 ∧ 0 < y.2 66 7 ∧ fz CD SDF Q Q'
def SUc (t0 N : Nat) (X Q : pm_M) (p : Nat) (y : Int × pm_M) : Prop :=
  y.1 = 1 ∧ gy t0 X y.2 ∧ y.2 66 7 = X 66 7 ∧ y.2 66 8 = X 66 8 ∧ ∃ (nc : Nat) (cl ql : List (Int × Int)) (Q' : pm_M) (c p' : Nat), p < p' ∧ c ≤ 3 * (p' - p) ∧ CLS t0 N y.2 Q' nc cl ql p' ∧ (∀ n, f_Q_text_L74 (n + c) Q = f_Q_text_L74 n Q') ∧ fz CD SD Q Q'
section
variable {t0 N : Nat} {X Q : pm_M}
theorem gy_rf (t0 : Nat) (X : pm_M) : gy t0 X X := ⟨fr_rf _ _, rfl⟩
theorem gy_tr {X1 X2 : pm_M} (h1 : gy t0 X X1) (h2 : gy t0 X1 X2) : gy t0 X X2 := ⟨fr_2 h1.1 h2.1, h2.2.trans h1.2⟩
theorem gy_gx {X1 : pm_M} (h : gx t0 X X1) : gy t0 X X1 := ⟨fr_mo h.1 (by simp), h.2.2.1⟩
theorem gy_fs {X1 : pm_M} {S : List Nat} (h : fs 66 S X X1) (h1 : 1 ∉ S) : gy t0 X X1 := ⟨fr_mo h.1 (by simp), h.2 1 h1⟩
theorem gy_37 {X1 : pm_M} (ht : tx4 t0) (h : gy t0 X X1) : X1 37 = X 37 ∧ X1 38 = X 38 := by
  unfold tx4 at ht
  rcases ht with e | e | e | e <;> subst e <;> exact ⟨h.1 37 (by decide), h.1 38 (by decide)⟩
theorem CK_new {X' Q' : pm_M} {nc : Nat} {k a b : Int} (h : CK t0 X Q nc) (hk : 0 ≤ k ∧ k ≤ 8) (x5 : X' t0 5 = (nc : Int) + 1) (x0 : X' (t0 + 1 + 0) = aS (X (t0 + 1 + 0)) nc k) (x1 : X' (t0 + 1 + 1) = aS (X (t0 + 1 + 1)) nc a) (x2 : X' (t0 + 1 + 2) = aS (X (t0 + 1 + 2)) nc b) (q28 : Q' 87 28 = ((nc + 1 : Nat) : Int)) (q102 : Q' 102 = aS (Q 102) nc k) (q104 : ∀ c, c < nc → Q' 104 c = Q 104 c) (q105 : ∀ c, c < nc → Q' 105 c = Q 105 c) (hn : 5 ≤ k → a = Q' 104 nc ∧ b = Q' 105 nc) : CK t0 X' Q' (nc + 1) := by
  refine ⟨by rw [x5]; omega, q28, fun c hc => ?_⟩
  rw [x0, x1, x2, q102, aSn, aSn, aSn, aSn]
  by_cases e : c = nc
  · subst e
    rw [if_pos rfl, if_pos rfl, if_pos rfl, if_pos rfl]
    exact ⟨rfl, hk, hn⟩
  · rw [if_neg e, if_neg e, if_neg e, if_neg e, q104 c (by omega), q105 c (by omega)]
    exact h.2.2 c (by omega)
theorem CLw_old {X' Q' : pm_M} {nc L : Nat} {cl ql u w : List (Int × Int)} (h : CLw t0 X Q nc cl ql L) (x3 : X' (t0 + 1 + 3) L = X (t0 + 1 + 3) L) (x1 : ∀ c, c < nc → X' (t0 + 1 + 1) c = X (t0 + 1 + 1) c) (x2 : ∀ c, c < nc → X' (t0 + 1 + 2) c = X (t0 + 1 + 2) c) (q102 : ∀ c, c < nc → Q' 102 c = Q 102 c) (qn : Q' 102 nc ≠ (L : Int)) (q103 : ∀ c, c < nc → Q' 103 c = Q 103 c) : CLw t0 X' Q' (nc + 1) (cl ++ u) (ql ++ w) L := by
  rcases h with ⟨h1, h2⟩ | ⟨c, l, a, b, a', b', h1, h2, h3, h4, h5, h6, h7, h8, h9⟩
  · refine Or.inl ⟨by rw [x3]; exact h1, fun c hc => ?_⟩
    by_cases e : c = nc
    · rw [e]; exact qn
    · rw [q102 c (by omega)]; exact h2 c (by omega)
  · refine Or.inr ⟨c, l, a, b ++ u, a', b' ++ w, by omega, by rw [x3]; exact h2, fun c' hc' => ?_, ?_, by rw [x1 c h1]; exact h5, by rw [x2 c h1]; exact h6, ?_, by rw [q103 c h1]; exact h8, h9⟩
    · by_cases e : c' = nc
      · rw [e]; exact ⟨fun z => absurd z qn, fun z => by omega⟩
      · rw [q102 c' (by omega)]; exact h3 c' (by omega)
    · rw [h4]; simp only [List.append_assoc]
    · rw [h7]; simp only [List.append_assoc, List.cons_append]
theorem CLw_new {X' Q' : pm_M} {nc L : Nat} {cl ql l : List (Int × Int)} (hno : ∀ c, c < nc → Q 102 c ≠ (L : Int)) (x3 : X' (t0 + 1 + 3) L = (nc : Int)) (x1 : X' (t0 + 1 + 1) nc = (cl.length : Int)) (x2 : X' (t0 + 1 + 2) nc = ((cl.length + l.length : Nat) : Int)) (q102 : Q' 102 = aS (Q 102) nc (L : Int)) (q103 : Q' 103 nc = (ql.length : Int)) (htr : trs (L : Int) l [] [decide (L = 4)]) : CLw t0 X' Q' (nc + 1) (cl ++ l) (ql ++ (l ++ [(408, 0)])) L := by
  refine Or.inr ⟨nc, l, cl, [], ql, [], by omega, x3, fun c' hc' => ?_, by rw [List.append_nil], x1, x2, by rw [List.append_assoc], q103, htr⟩
  rw [q102, aSn]
  by_cases e : c' = nc
  · rw [if_pos e]; exact ⟨fun _ => e, fun _ => rfl⟩
  · rw [if_neg e]; exact ⟨fun z => absurd z (hno c' (by omega)), fun z => absurd z e⟩
/-- the end of a clause -/
theorem fin_clause {nc p pa c1 : Nat} {cl ql lq pend l : List (Int × Int)} {frs : List Int} {k a b : Int} {Xa Qa : pm_M} (ht : tx4 t0) (hS : CLS t0 N X Q nc cl ql p) (hnc : nc < 24) (hk : 0 ≤ k ∧ k ≤ 8)
    (hg : gy t0 X Xa) (g7 : Xa 66 7 = X 66 7) (g8 : Xa 66 8 = X 66 8) (g5 : Xa t0 5 = nc) (gi : ∀ i, i < 4 → Xa (t0 + 1 + i) = X (t0 + 1 + i)) (hXS : XS Xa t0 (cl ++ l)) (hl : l = lq ++ zw pend)
    (hT : TPX Xa Qa N) (hK : TK N Xa Qa) (hR : RS Qa 0 frs pend (ql ++ lq)) (hpw : Pw 1 2 frs.length pend) (q28 : Qa 87 28 = nc) (hpa : Qa 87 15 = pa) (hpp : p < pa) (hll : l.length ≤ pa - p) (hf : fz CD SD Q Qa)
    (q102 : Qa 102 = aS (Q 102) nc k) (q103 : ∀ c, c < nc → Qa 103 c = Q 103 c) (q103n : Qa 103 nc = (ql.length : Int)) (q104 : ∀ c, c < nc → Qa 104 c = Q 104 c) (q105 : ∀ c, c < nc → Qa 105 c = Q 105 c)
    (hdeed : 5 ≤ k → a = Qa 104 nc ∧ b = Qa 105 nc) (hlaw : k ≤ 4 → a = (cl.length : Int) ∧ b = ((cl.length + l.length : Nat) : Int) ∧ trs k l [] [decide (k = 4)] ∧ ∀ c, c < nc → Q 102 c ≠ k)
    (hc1 : c1 ≤ 3 * (pa - p)) (hL0 : f_Q_isSign 59 Qa = some 0 → ∀ Q', f_Q_errs 1 Qa = some Q' → Q' 87 18 ≠ 0 → ∀ n, f_Q_text_L74 (n + c1) Q = f_Q_text_L74 n Q') (hL1 : f_Q_isSign 59 Qa = some 1 → ∀ Q', f_Q_clauseIsOver Qa = some Q' → ∀ n, f_Q_text_L74 (n + c1) Q = f_Q_text_L74 n Q') :
    ∃ Xb y, f_Text_addClause t0 k a b Xa = some Xb ∧ f_Reader_expect 34 Xb = some y ∧ (FLc t0 N X Q p y ∨ SUc t0 N X Q p y) := by
  obtain ⟨s1, s2, s3, s4, s5, s6, s7, s8, s9, s10, s11⟩ := hS
  obtain ⟨Xb, b1, b2, b3, b4, b5, b6, b7⟩ := x_addC (t0 := t0) (X := Xa) g5 hnc hk.1 a b
  have ht' := ht
  unfold tx4 at ht'
  have n66 : (66 : Nat) ∉ [t0, t0 + 1 + 0, t0 + 1 + 1, t0 + 1 + 2, t0 + 1 + 3] := by
    rcases ht' with e | e | e | e <;> subst e <;> decide
  have e66 : Xb 66 = Xa 66 := b7 66 n66
  have e5 : Xb (t0 + 5) = Xa (t0 + 5) := b7 (t0 + 5) (by simp)
  have hgb : gy t0 Xa Xb := ⟨fr_mo b7 (by simp), by rw [e66]⟩
  have h37 := gy_37 ht hgb
  have hTb : TPX Xb Qa N := by unfold TPX; rw [h37.1, h37.2]; exact hT
  have hKb : TK N Xb Qa := TK_mo hK e66 rfl rfl rfl rfl
  have hXSb : XS Xb t0 (cl ++ l) := ⟨by rw [e66]; exact hXS.1, by rw [b2, aSn, if_neg (by omega)]; exact hXS.2.1, by rw [e5]; exact hXS.2.2⟩
  have hpaN := p_le hK hpa
  have h300 := hT.2.1
  have hlen : (ql ++ lq).length + pend.length ≤ pa + nc := by
    rw [hl, List.length_append, zw_len] at hll
    rw [List.length_append]; omega
  rcases b_stop hTb hKb hR hpw q28 hnc hpa (by omega) with ⟨X', a1, a2, a3, a4, a5⟩ | ⟨X', Q', p', a1, a2, a3, a4, a5, a6, a7, a8, a9, a10, a11, a12, a13⟩
  · refine ⟨Xb, (0, X'), b1, a1, Or.inl ⟨rfl, gy_tr hg (gy_tr hgb (gy_fs a3 (by decide))), ?_⟩⟩
    have h18 : Qa 87 18 = 0 := hR.2.2.2.2.2.2.2.2
    obtain ⟨Q', d1, d2, d3, d4⟩ := q_errs0 1 h18
    refine ⟨c1 + 1, Q', by omega, fun n => ?_, ?_, ?_, ?_, fz_tr hf (fz_fs d2) (idm _) (by decide) (by decide) (by decide)⟩
    · rw [show n + (c1 + 1) = (n + 1) + c1 by omega, hL0 a2 Q' d1 (by omega), L_stop n (by omega)]
    · show Q' 87 18 = X' 66 7
      rw [d3, a4]
    · show Q' 87 19 = X' 66 8
      rw [d4, a5]
    · show 0 < X' 66 7
      rw [a4]; decide
  · have hgx : ∀ c, c ≠ 66 → X' c = Xb c := fun c hc => fs_o a12 hc
    have hn0 : t0 ≠ 66 ∧ t0 + 1 + 0 ≠ 66 ∧ t0 + 1 + 1 ≠ 66 ∧ t0 + 1 + 2 ≠ 66 ∧ t0 + 1 + 3 ≠ 66 := by omega
    have r102 : Q' 102 = aS (Q 102) nc k := by rw [a13.1 102 (by decide)]; exact q102
    have eql : ql ++ lq ++ zw pend ++ [(408, 0)] = ql ++ (l ++ [(408, 0)]) := by rw [hl]; simp only [List.append_assoc]
    rw [eql] at a6
    refine ⟨Xb, (1, X'), b1, a1, Or.inr ⟨rfl, gy_tr hg (gy_tr hgb (gy_fs a12 (by decide))), ?_, ?_, nc + 1, cl ++ l, ql ++ (l ++ [(408, 0)]), Q', c1, p', by omega, by omega, ⟨a4, a5, XS_fs ht hXSb a12 (by decide), a6, a8, ?_, fun L hL => ?_, a9, ?_, ?_, by omega⟩, fun n => hL1 a2 Q' a3 n, fz_tr hf a13 (idm _) (idm _) (by decide) (by decide)⟩⟩
    · show X' 66 7 = X 66 7
      rw [a12.2 7 (by decide), e66]; exact g7
    · show X' 66 8 = X 66 8
      rw [a12.2 8 (by decide), e66]; exact g8
    · refine CK_new (k := k) (a := a) (b := b) s6 hk ?_ ?_ ?_ ?_ a7 r102 ?_ ?_ ?_
      · show X' t0 5 = _
        rw [hgx t0 hn0.1, b2, aSn, if_pos rfl]
      · show X' (t0 + 1 + 0) = _
        rw [hgx _ hn0.2.1, b3, gi 0 (by omega)]
      · show X' (t0 + 1 + 1) = _
        rw [hgx _ hn0.2.2.1, b4, gi 1 (by omega)]
      · show X' (t0 + 1 + 2) = _
        rw [hgx _ hn0.2.2.2.1, b5, gi 2 (by omega)]
      · intro c hc; rw [a13.1 104 (by decide)]; exact q104 c hc
      · intro c hc; rw [a13.1 105 (by decide)]; exact q105 c hc
      · intro h; rw [a13.1 104 (by decide), a13.1 105 (by decide)]; exact hdeed h
    · have y1 : X' (t0 + 1 + 1) = aS (X (t0 + 1 + 1)) nc a := by rw [hgx _ hn0.2.2.1, b4, gi 1 (by omega)]
      have y2 : X' (t0 + 1 + 2) = aS (X (t0 + 1 + 2)) nc b := by rw [hgx _ hn0.2.2.2.1, b5, gi 2 (by omega)]
      have y3 : X' (t0 + 1 + 3) = if 4 < k then X (t0 + 1 + 3) else aS (X (t0 + 1 + 3)) k.toNat nc := by rw [hgx _ hn0.2.2.2.2, b6, gi 3 (by omega)]
      have y103 : Q' 103 = Qa 103 := a13.1 103 (by decide)
      show CLw t0 X' Q' (nc + 1) (cl ++ l) (ql ++ (l ++ [(408, 0)])) L
      by_cases e : k = (L : Int)
      · have hk4 : k ≤ 4 := by omega
        obtain ⟨w1, w2, w3, w4⟩ := hlaw hk4
        have ed : (decide (k = 4)) = decide (L = 4) := by
          by_cases z : L = 4
          · rw [decide_eq_true z, decide_eq_true (by omega)]
          · rw [decide_eq_false z, decide_eq_false (by omega)]
        rw [ed, e] at w3
        rw [e] at w4 r102
        refine CLw_new w4 ?_ ?_ ?_ r102 ?_ w3
        · rw [y3, if_neg (by omega), aSn, if_pos (by omega)]
        · rw [y1, aSn, if_pos rfl]; exact w1
        · rw [y2, aSn, if_pos rfl]; exact w2
        · rw [y103]; exact q103n
      · refine CLw_old (s7 L hL) ?_ (fun c hc => ?_) (fun c hc => ?_) (fun c hc => ?_) ?_ (fun c hc => ?_)
        · rw [y3]
          by_cases h4 : 4 < k
          · rw [if_pos h4]
          · rw [if_neg h4, aSn, if_neg (by omega)]
        · rw [y1, aSn, if_neg (by omega)]
        · rw [y2, aSn, if_neg (by omega)]
        · rw [r102, aSn, if_neg (by omega)]
        · rw [r102, aSn, if_pos rfl]; exact e
        · rw [y103]; exact q103 c hc
    · rw [List.length_append]; omega
    · rw [List.length_append, List.length_append]; show ql.length + (l.length + 1) ≤ p' + (nc + 1); omega
end
