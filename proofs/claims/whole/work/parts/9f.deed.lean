/-! CLAUSES: deeds -/
section
variable {t0 N : Nat} {X Q : pm_M}
theorem q_start {nc : Nat} {ql : List (Int × Int)} (hR : RS Q 0 [] [] ql) (k : Int) : ∃ Qs, pm_ms (pm_ms (pm_ms (pm_ms (pm_ms Q 87 29 k) 102 nc k) 103 nc (Q 87 34)) 104 nc (-1)) 105 nc (-1) = Qs ∧ RS Qs 0 [] [] ql ∧ fz [87, 102, 103, 104, 105] [29] Q Qs ∧ Qs 87 29 = k ∧ Qs 102 = aS (Q 102) nc k ∧ Qs 103 = aS (Q 103) nc (ql.length : Int) ∧ Qs 104 = aS (Q 104) nc (-1) ∧ Qs 105 = aS (Q 105) nc (-1) := by
  have h34 : Q 87 34 = ql.length := hR.2.2.2.2.2.2.1
  generalize hQ : pm_ms (pm_ms (pm_ms (pm_ms (pm_ms Q 87 29 k) 102 nc k) 103 nc (Q 87 34)) 104 nc (-1)) 105 nc (-1) = Qs
  have f : fz [87, 102, 103, 104, 105] [29] Q Qs := by
    rw [← hQ]
    have g1 : fz [87, 102, 103, 104, 105] [29] Q (pm_ms Q 87 29 k) := fz_87 (by decide) (by decide)
    refine fz_tr (fz_tr (fz_tr (fz_tr g1 (fz_c (C := [87, 102, 103, 104, 105]) (S := [29]) (by decide) (by decide)) (idm _) (idm _) (idm _) (idm _)) (fz_c (C := [87, 102, 103, 104, 105]) (S := [29]) (by decide) (by decide)) (idm _) (idm _) (idm _) (idm _)) (fz_c (C := [87, 102, 103, 104, 105]) (S := [29]) (by decide) (by decide)) (idm _) (idm _) (idm _) (idm _)) (fz_c (C := [87, 102, 103, 104, 105]) (S := [29]) (by decide) (by decide)) (idm _) (idm _) (idm _) (idm _)
  refine ⟨Qs, rfl, RS_fz hR f (by decide) (by decide) (by decide) (by decide) (by decide) (by decide) (by decide) (by decide) (by decide) (by decide), f, ?_, ?_, ?_, ?_, ?_⟩
  · rw [← hQ, ms_nc _ 105 _ _ (by omega), ms_nc _ 104 _ _ (by omega), ms_nc _ 103 _ _ (by omega), ms_nc _ 102 _ _ (by omega), ms_at]
  · rw [← hQ, ms_nc _ 105 _ _ (by omega), ms_nc _ 104 _ _ (by omega), ms_nc _ 103 _ _ (by omega), msc, ms_nc _ 87 _ _ (by omega)]
  · rw [← hQ, ms_nc _ 105 _ _ (by omega), ms_nc _ 104 _ _ (by omega), msc, ms_nc _ 102 _ _ (by omega), ms_nc _ 87 _ _ (by omega), h34]
  · rw [← hQ, ms_nc _ 105 _ _ (by omega), msc, ms_nc _ 103 _ _ (by omega), ms_nc _ 102 _ _ (by omega), ms_nc _ 87 _ _ (by omega)]
  · rw [← hQ, msc, ms_nc _ 104 _ _ (by omega), ms_nc _ 103 _ _ (by omega), ms_nc _ 102 _ _ (by omega), ms_nc _ 87 _ _ (by omega)]
/-- the reference's clause after its keyword -/
theorem q_cl_pre {nc : Nat} {k : Int} (h16 : Q 87 16 = 1) (h17 : Q 87 17 = k) (hk : 0 ≤ k ∧ k ≤ 8) (h28 : Q 87 28 = nc) (hnc : nc < 24) (hto : k ≤ 4 → ∀ c, c < nc → Q 102 c ≠ k) : f_Q_clause Q = f_Q_clause_J73 (pm_ms Q 87 29 k) := by
  unfold f_Q_clause
  rw [if_pos h16, h17, if_pos hk.2, pbd]
  generalize hQ1 : pm_ms Q 87 29 k = Q1
  have e29 : Q1 87 29 = k := by rw [← hQ1, ms_at]
  have e28 : Q1 87 28 = nc := by rw [← hQ1, ms_nj _ _ _ _ (by omega)]; exact h28
  have e102 : Q1 102 = Q 102 := by rw [← hQ1, ms_nc _ _ _ _ (by omega)]
  have eJ : f_Q_clause_J58 Q1 = f_Q_clause_J73 Q1 := by
    unfold f_Q_clause_J58
    rw [e28, if_neg (by omega)]
  rw [e29]
  by_cases h4 : 4 < k
  · rw [if_pos h4]; exact eJ
  · rw [if_neg h4, q_told0 e28 (by omega) (by rw [e102]; exact hto (by omega)), ob, if_pos rfl]; exact eJ
theorem q_J73 {nc : Nat} {k : Int} {Q1 Qs Q2 : pm_M} (h18 : Q1 87 18 = 0) (h28 : Q1 87 28 = nc) (hnc : nc < 24) (h29 : Q1 87 29 = k) (hs : pm_ms (pm_ms (pm_ms (pm_ms Q1 102 nc k) 103 nc (Q1 87 34)) 104 nc (-1)) 105 nc (-1) = Qs) (hn : f_Q_next Qs = some Q2) (h29' : Q2 87 29 = k) (h28' : Q2 87 28 = nc) :
    (∀ (v mx : Int) (Q3 : pm_M), ((k = 8 ∧ mx = 99) ∨ (k = 5 ∧ mx = 11) ∨ ((k = 6 ∨ k = 7) ∧ mx = 7)) → f_Q_number 0 mx Q2 = some (v, Q3) → pm_ms Q3 104 nc v 87 29 = k → f_Q_clause_J73 Q1 = if k = 5 ∨ k = 7 then f_Q_clause_J234 (pm_ms Q3 104 nc v) else f_Q_clause_J295 (pm_ms Q3 104 nc v)) ∧
    (∀ (f st : Int) (Q3 : pm_M), ((k = 4 ∧ f = 2 ∧ st = 0) ∨ (k < 4 ∧ f = 1 ∧ st = 1)) → f_Q_opensFrame f Q2 = some Q3 → Q3 87 29 = k → f_Q_clause_J73 Q1 = some (pm_ms Q3 87 27 st)) := by
  unfold f_Q_clause_J73
  rw [if_pos (show Q1 87 18 ≤ 0 by omega), h28, if_pos (show (0 : Int) ≤ (nc : Int) ∧ (nc : Int) < 24 by omega), tn_nat, pbd, h29, ms_nc Q1 102 nc k (a := 87) (by omega), h28, if_pos (show (0 : Int) ≤ (nc : Int) ∧ (nc : Int) < 24 by omega), tn_nat, pbd]
  rw [ms_nc (pm_ms Q1 102 nc k) 103 nc (Q1 87 34) (a := 87) (by omega), ms_nc Q1 102 nc k (a := 87) (by omega), h28, if_pos (show (0 : Int) ≤ (nc : Int) ∧ (nc : Int) < 24 by omega), tn_nat, pbd]
  rw [ms_nc _ 104 nc (-1) (a := 87) (by omega), ms_nc (pm_ms Q1 102 nc k) 103 nc (Q1 87 34) (a := 87) (by omega), ms_nc Q1 102 nc k (a := 87) (by omega), h28, if_pos (show (0 : Int) ≤ (nc : Int) ∧ (nc : Int) < 24 by omega), tn_nat, pbd, hs, hn, ob, h29']
  constructor
  · intro v mx Q3 hm hnum h3
    rcases hm with ⟨rfl, rfl⟩ | ⟨rfl, rfl⟩ | ⟨rfl | rfl, rfl⟩
    · rw [if_pos (by decide), if_pos rfl, hnum, ob, h28', if_pos (by omega), tn_nat, pbd, h3]
      rfl
    · rw [if_pos (by decide), if_neg (by decide), if_pos rfl, hnum, ob, h28', if_pos (by omega), tn_nat, pbd, h3]
      rfl
    · rw [if_pos (by decide), if_neg (by decide), if_neg (by decide), hnum, ob, h28', if_pos (by omega), tn_nat, pbd, h3]
      rfl
    · rw [if_pos (by decide), if_neg (by decide), if_neg (by decide), hnum, ob, h28', if_pos (by omega), tn_nat, pbd, h3]
      rfl
  · intro f st Q3 hf ho h3
    rcases hf with ⟨hk, rfl, rfl⟩ | ⟨hk, rfl, rfl⟩
    · rw [if_neg (by omega), if_pos hk, ho, ob, h3, if_pos hk, pbd]
    · rw [if_neg (by omega), if_neg (by omega), ho, ob, h3, if_neg (by omega), pbd]
theorem J295_b (h : 0 < Q 87 18) : f_Q_clause_J295 Q = some Q := by
  unfold f_Q_clause_J295
  rw [if_neg (by omega), if_neg (by omega)]
theorem J295_n {Q' : pm_M} (h18 : Q 87 18 = 0) (hs : f_Q_isSign 59 Q = some 0) (he : f_Q_errs 1 Q = some Q') (hq : Q' 87 18 ≠ 0) : f_Q_clause_J295 Q = some Q' := by
  unfold f_Q_clause_J295
  rw [if_pos h18, hs, ob, if_pos rfl, he, ob, if_neg hq]
theorem J295_y {Q' : pm_M} (h18 : Q 87 18 = 0) (hs : f_Q_isSign 59 Q = some 1) (ho : f_Q_clauseIsOver Q = some Q') : f_Q_clause_J295 Q = some Q' := by
  unfold f_Q_clause_J295
  rw [if_pos h18, hs, ob, if_neg (by decide), if_pos h18, ho, ob]
theorem numb_b (h : 0 < Q 87 18) (a b : Int) : f_Q_number a b Q = some (a, Q) := by
  unfold f_Q_number f_Q_errs
  rw [if_pos h, if_neg (by omega), ob]
theorem J279_b {nc : Nat} (h : 0 < Q 87 18) (h28 : Q 87 28 = nc) (hnc : nc < 24) : f_Q_clause_J279 Q = some (pm_ms Q 105 nc 0) := by
  unfold f_Q_clause_J279
  rw [numb_b h, ob, h28, if_pos (by omega), tn_nat, pbd, J295_b]
  rw [ms_nc _ _ _ _ (by omega)]; exact h
theorem J268_b {nc : Nat} (h : 0 < Q 87 18) (h28 : Q 87 28 = nc) (hnc : nc < 24) : f_Q_clause_J268 Q = some (pm_ms Q 105 nc 0) := by
  unfold f_Q_clause_J268
  rw [if_neg (by omega), J279_b h h28 hnc]
theorem J234_b {nc : Nat} (h : 0 < Q 87 18) (h28 : Q 87 28 = nc) (hnc : nc < 24) : f_Q_clause_J234 Q = some (pm_ms Q 105 nc 0) := by
  unfold f_Q_clause_J234
  rw [if_neg (by omega), J268_b h h28 hnc]
theorem J234_n {nc : Nat} {w : Int} {Q1 : pm_M} (h18 : Q 87 18 = 0) (hw : (Q 87 29 = 5 ∧ w = 9) ∨ (Q 87 29 = 7 ∧ w = 10)) (hno : ¬ (Q 87 16 = 1 ∧ Q 87 17 = w)) (he : f_Q_errs 1 Q = some Q1) (h1 : 0 < Q1 87 18) (h28 : Q1 87 28 = nc) (hnc : nc < 24) : f_Q_clause_J234 Q = some (pm_ms Q1 105 nc 0) := by
  unfold f_Q_clause_J234
  have e : f_Q_isWord w Q = some 0 := by
    unfold f_Q_isWord
    by_cases z : Q 87 16 = 1
    · rw [if_pos z, if_neg (fun z2 => hno ⟨z, z2⟩)]
    · rw [if_neg z]
  rw [if_pos h18]
  rcases hw with ⟨a, rfl⟩ | ⟨a, rfl⟩
  · rw [if_pos a, e, ob, if_pos rfl, he, ob, J268_b h1 h28 hnc]
  · rw [if_neg (by omega), e, ob, if_pos rfl, he, ob, J268_b h1 h28 hnc]
theorem J234_y {nc : Nat} {w v : Int} {Q1 Q2 : pm_M} (h18 : Q 87 18 = 0) (hw : (Q 87 29 = 5 ∧ w = 9) ∨ (Q 87 29 = 7 ∧ w = 10)) (h16 : Q 87 16 = 1) (h17 : Q 87 17 = w) (hn : f_Q_next Q = some Q1) (h28 : Q1 87 28 = nc) (hnc : nc < 24) (hnum : f_Q_number 0 7 Q1 = some (v, Q2)) : f_Q_clause_J234 Q = f_Q_clause_J295 (pm_ms Q2 105 nc v) := by
  have e : f_Q_isWord w Q = some 1 := by
    unfold f_Q_isWord
    rw [if_pos h16, if_pos h17]
  have eJ : f_Q_clause_J268 Q = f_Q_clause_J295 (pm_ms Q2 105 nc v) := by
    unfold f_Q_clause_J268 f_Q_clause_J279
    rw [if_pos h18, hn, ob, hnum, ob, h28, if_pos (by omega), tn_nat, pbd]
  unfold f_Q_clause_J234
  rw [if_pos h18]
  rcases hw with ⟨a, rfl⟩ | ⟨a, rfl⟩
  · rw [if_pos a, e, ob, if_neg (by decide), eJ]
  · rw [if_neg (by omega), e, ob, if_neg (by decide), eJ]
-- the class's deeds
def mxr (k : Int) (mx : Nat) : Prop := (k = 8 ∧ (mx : Int) = 99) ∨ (k = 5 ∧ (mx : Int) = 11) ∨ ((k = 6 ∨ k = 7) ∧ (mx : Int) = 7)
theorem x_deed0 {k : Int} {mx : Nat} {X1 : pm_M} (hm : mxr k mx) (h : f_Reader_numberUpTo mx X = some (0, X1)) : f_Reader_deed k X = some (0, X1) := by
  unfold f_Reader_deed
  rcases hm with ⟨rfl, e⟩ | ⟨rfl, e⟩ | ⟨rfl | rfl, e⟩ <;> rw [e] at h
  · rw [if_pos rfl, h, ob, if_pos rfl]
  · rw [if_neg (by decide), if_pos rfl, h, ob, if_pos rfl]
  · rw [if_neg (by decide), if_neg (by decide), h, ob, if_pos rfl]
  · rw [if_neg (by decide), if_neg (by decide), h, ob, if_pos rfl]
theorem x_deed1 {k : Int} {mx : Nat} {X1 X2 : pm_M} {y : Int × pm_M} (ht : tx4 t0) (hm : mxr k mx) (hk : k = 6 ∨ k = 8) (h : f_Reader_numberUpTo mx X = some (1, X1)) (h1 : X1 66 1 = ((t0 + 1 : Nat) : Int)) (ha : f_Text_addClause t0 k (X 66 4) (-1) X1 = some X2) (he : f_Reader_expect 34 X2 = some y) (hy : y.1 = 0 ∨ y.1 = 1) : f_Reader_deed k X = some y := by
  have hto := t_or ht h1
  unfold f_Reader_deed
  rcases hk with rfl | rfl
  · have e : (mx : Int) = 7 := by unfold mxr at hm; omega
    rw [e] at h
    rw [if_neg (by decide), if_neg (by decide), h, ob, if_neg (by omega), if_neg (by decide), if_neg (by decide), if_pos hto.1, hto.2, ha, ob, he, ob, if_pos hy]
  · have e : (mx : Int) = 99 := by unfold mxr at hm; omega
    rw [e] at h
    rw [if_pos rfl, h, ob, if_neg (by omega), if_neg (by decide), if_neg (by decide), if_pos hto.1, hto.2, ha, ob, he, ob, if_pos hy]
theorem x_deed2 {k w : Int} {mx : Nat} {X1 : pm_M} (hm : mxr k mx) (hk : (k = 5 ∧ w = 9) ∨ (k = 7 ∧ w = 10)) (h : f_Reader_numberUpTo mx X = some (1, X1)) : f_Reader_deed k X = f_Reader_deed_J53 k (X 66 4) X1 := by
  unfold f_Reader_deed
  rcases hk with ⟨rfl, rfl⟩ | ⟨rfl, rfl⟩
  · have e : (mx : Int) = 11 := by unfold mxr at hm; omega
    rw [e] at h
    rw [if_neg (by decide), if_pos rfl, h, ob, if_neg (by omega), if_pos rfl]
  · have e : (mx : Int) = 7 := by unfold mxr at hm; omega
    rw [e] at h
    rw [if_neg (by decide), if_neg (by decide), h, ob, if_neg (by omega), if_neg (by decide), if_pos rfl]
theorem x_J53_0 {k w a : Int} {X1 : pm_M} (hk : (k = 5 ∧ w = 9) ∨ (k = 7 ∧ w = 10)) (h : f_Reader_expect w X = some (0, X1)) : f_Reader_deed_J53 k a X = some (0, X1) := by
  unfold f_Reader_deed_J53
  rcases hk with ⟨rfl, rfl⟩ | ⟨rfl, rfl⟩
  · rw [if_pos rfl, h, ob, if_pos rfl]
  · rw [if_neg (by decide), h, ob, if_pos rfl]
theorem x_J53_1 {k w a : Int} {X1 X2 : pm_M} (hk : (k = 5 ∧ w = 9) ∨ (k = 7 ∧ w = 10)) (h : f_Reader_expect w X = some (1, X1)) (h2 : f_Reader_numberUpTo 7 X1 = some (0, X2)) : f_Reader_deed_J53 k a X = some (0, X2) := by
  unfold f_Reader_deed_J53
  rcases hk with ⟨rfl, rfl⟩ | ⟨rfl, rfl⟩
  · rw [if_pos rfl, h, ob, if_neg (by omega), h2, ob, if_pos rfl]
  · rw [if_neg (by decide), h, ob, if_neg (by omega), h2, ob, if_pos rfl]
theorem x_J53_2 {k w a : Int} {X1 X2 X3 : pm_M} {y : Int × pm_M} (ht : tx4 t0) (hk : (k = 5 ∧ w = 9) ∨ (k = 7 ∧ w = 10)) (h : f_Reader_expect w X = some (1, X1)) (h2 : f_Reader_numberUpTo 7 X1 = some (1, X2)) (h1 : X2 66 1 = ((t0 + 1 : Nat) : Int)) (ha : f_Text_addClause t0 k a (X1 66 4) X2 = some X3) (he : f_Reader_expect 34 X3 = some y) (hy : y.1 = 0 ∨ y.1 = 1) : f_Reader_deed_J53 k a X = some y := by
  have hto := t_or ht h1
  unfold f_Reader_deed_J53
  rcases hk with ⟨rfl, rfl⟩ | ⟨rfl, rfl⟩
  · rw [if_pos rfl, h, ob, if_neg (by omega), h2, ob, if_neg (by omega), if_pos hto.1, hto.2, ha, ob, he, ob, if_pos hy]
  · rw [if_neg (by decide), h, ob, if_neg (by omega), h2, ob, if_neg (by omega), if_pos hto.1, hto.2, ha, ob, he, ob, if_pos hy]
end
