/-! TOURS: the reference -/
section
variable {A : Nat → Int} {P : Nat} {lim : Int}
def wv (A : Nat → Int) (f : Nat → Nat) (n : Nat) : Int := smv n (fun i => vwA A (f i))
def wm (A : Nat → Int) (f : Nat → Nat) (n : Nat) : Int := smv n (fun i => if i = 0 then 0 else apA A (f (i - 1)) (f i))
theorem wv_aN (A : Nat → Int) (f : Nat → Nat) (k c : Nat) : wv A (aN f k c) (k + 1) = wv A f k + vwA A c := by
  unfold wv
  rw [smv]
  have h1 : smv k (fun i => vwA A (aN f k c i)) = smv k (fun i => vwA A (f i)) := smv_congr k (fun p hp => by unfold aN; rw [if_neg (by omega)])
  have h2 : aN f k c k = c := by unfold aN; rw [if_pos rfl]
  rw [h1, h2]
theorem wm_aN (A : Nat → Int) (f : Nat → Nat) {k : Nat} (c : Nat) (hk : 1 ≤ k) : wm A (aN f k c) (k + 1) = wm A f k + apA A (f (k - 1)) c := by
  unfold wm
  rw [smv]
  have h1 : smv k (fun i => if i = 0 then 0 else apA A (aN f k c (i - 1)) (aN f k c i)) = smv k (fun i => if i = 0 then 0 else apA A (f (i - 1)) (f i)) := smv_congr k (fun p hp => by
    have a1 : aN f k c (p - 1) = f (p - 1) := by unfold aN; rw [if_neg (by omega)]
    have a2 : aN f k c p = f p := by unfold aN; rw [if_neg (by omega)]
    rw [a1, a2])
  have h2 : aN f k c k = c := by unfold aN; rw [if_pos rfl]
  have h3 : aN f k c (k - 1) = f (k - 1) := by unfold aN; rw [if_neg (by omega)]
  rw [h1, if_neg (by omega), h2, h3]
theorem wv_b (hA : WF A) (f : Nat → Nat) (n : Nat) : 0 ≤ wv A f n ∧ wv A f n ≤ 9 * n := smv_b n (fun p _ => vwA_0 hA (f p))
theorem wm_b (hA : WF A) {f : Nat → Nat} {n : Nat} (hf : ∀ i, i < n → f i < 8) : 0 ≤ wm A f n ∧ wm A f n ≤ 198 * n := smv_b n (fun p hp => by
  have := apA_0 A (f (p - 1)) (f p)
  have := apA_b hA (hf (p - 1) (by omega)) (hf p hp)
  split <;> omega)
theorem q_askL (hA : WF A) {f : Nat → Nat} {N : Nat} (hN : N ≤ 8) (hf : ∀ i, i < N → f i < 8) : ∀ (t n q : Nat) (M : pm_M), q + t = N → t < n → M 88 = A → (∀ i, i < N → M 115 i = (f i : Int)) → M 87 47 = wv A f q → M 87 48 = wm A f q →
    ok (f_Q_asksTour_L12 n N q M) (fun M' => M' 87 47 = wv A f N ∧ M' 87 48 = wm A f N ∧ (∀ j, j ≠ 47 → j ≠ 48 → M' 87 j = M 87 j) ∧ fr [87] M M') := by
  intro t
  induction t with
  | zero =>
    intro n q M hq hn hM h115 h47 h48
    cases n with
    | zero => omega
    | succ n =>
      unfold f_Q_asksTour_L12
      rw [show q = N by omega] at h47 h48 ⊢
      exact ok_pos (by omega) (ok_some ⟨h47, h48, fun _ _ _ => rfl, fr_rf _ _⟩)
  | succ t ih =>
    intro n q M hq hn hM h115 h47 h48
    cases n with
    | zero => omega
    | succ n =>
      have hfq := hf q (by omega)
      have hvb := wv_b hA f q
      have hmb := wm_b hA (f := f) (n := q) (fun i hi => hf i (by omega))
      have hv := vwA_0 hA (f q)
      have e13 : A (13 + 4 * f q) = vwA A (f q) := by unfold vwA; rw [if_pos hfq]
      unfold f_Q_asksTour_L12
      rw [tn_nat, h115 q (by omega), i_ml_eq (by omega), i_ad_eq (a := 10) (by omega), i_ad_eq (b := 3) (by omega), show ((10 : Int) + 4 * (f q : Int) + 3).toNat = 13 + 4 * f q by omega, hM, e13, h47, i_ad_eq (a := wv A f q) (by omega), i_ad_eq (a := (q : Int)) (by omega)]
      refine ok_neg (by omega) (ok_pos (by omega) (ok_pos (by omega) (ok_bd ?_)))
      generalize hM1 : pm_ms M 87 47 (wv A f q + vwA A (f q)) = M1
      have f1 : fr [87] M M1 := by rw [← hM1]; exact fr_ms (by decide)
      have m47 : M1 87 47 = wv A f (q + 1) := by rw [← hM1, msc, aSn, if_pos rfl]; rfl
      have m48 : M1 87 48 = wm A f q := by rw [← hM1, msc, aSn, if_neg (by omega)]; exact h48
      have mj : ∀ j, j ≠ 47 → M1 87 j = M 87 j := fun j hj => by rw [← hM1, msc, aSn, if_neg hj]
      have go : ∀ v, v = wm A f (q + 1) → ok (f_Q_asksTour_L12 n N ((q : Int) + 1) (pm_ms M1 87 48 v)) (fun M' => M' 87 47 = wv A f N ∧ M' 87 48 = wm A f N ∧ (∀ j, j ≠ 47 → j ≠ 48 → M' 87 j = M 87 j) ∧ fr [87] M M') := by
        intro v hv
        have f2 : fr [87] M (pm_ms M1 87 48 v) := fr_2 f1 (fr_ms (by decide))
        refine ok_mono (ih n (q + 1) _ (by omega) (by omega) (by rw [f2 88 (by decide)]; exact hM) (fun i hi => by rw [f2 115 (by decide)]; exact h115 i hi) (by rw [msc, aSn, if_neg (by omega)]; exact m47) (by rw [msc, aSn, if_pos rfl]; exact hv)) ?_
        rintro M' ⟨z1, z2, z3, z4⟩
        exact ⟨z1, z2, fun j h1 h2 => by rw [z3 j h1 h2, msc, aSn, if_neg h2, mj j h1], fr_2 f2 z4⟩
      rw [m48]
      refine ok_ite (fun h0 => ?_) (fun h0 => ?_)
      · rw [i_ad_eq (by omega)]
        refine ok_bd (go _ ?_)
        show _ = smv (q + 1) _
        rw [smv, if_pos (by omega)]; rfl
      · have hab := apA_b hA (hf (q - 1) (by omega)) hfq
        have ha0 := apA_0 A (f (q - 1)) (f q)
        rw [i_sb_eq (by omega), show ((q : Int) - 1).toNat = q - 1 by omega, f1 115 (by decide), h115 (q - 1) (by omega), h115 q (by omega)]
        refine ok_pos (by omega) (ok_pos (by omega) (ok_be (q_mi hA.xy (by rw [f1 88 (by decide)]; exact hM) (hf (q - 1) (by omega)) hfq) ?_))
        rw [a_mi_ap hA (hf (q - 1) (by omega)) hfq, i_ad_eq (by omega)]
        refine ok_bd (go _ ?_)
        show _ = smv (q + 1) _
        rw [smv, if_neg (by omega)]; rfl
theorem q_asks {M : pm_M} (hA : WF A) {f : Nat → Nat} {N : Nat} (hN : N ≤ 8) (hf : ∀ i, i < N → f i < 8) (hM : M 88 = A) (h115 : ∀ i, i < N → M 115 i = (f i : Int)) : ok (f_Q_asksTour N M) (fun M' => M' 87 47 = wv A f N ∧ M' 87 48 = wm A f N ∧ (∀ j, j ≠ 47 → j ≠ 48 → M' 87 j = M 87 j) ∧ fr [87] M M') := by
  unfold f_Q_asksTour
  have f2 : fr [87] M (pm_ms (pm_ms M 87 47 0) 87 48 0) := fr_2 (fr_ms (by decide)) (fr_ms (by decide))
  refine ok_bd (ok_bd (ok_bind (q_askL hA hN hf N pm_F 0 _ (by omega) (by unfold pm_F; omega) (by rw [f2 88 (by decide)]; exact hM) (fun i hi => by rw [f2 115 (by decide)]; exact h115 i hi) (by rw [msc, aSn, if_neg (by omega), msc, aSn, if_pos rfl]; rfl) (by rw [msc, aSn, if_pos rfl]; rfl)) ?_))
  rintro M' ⟨z1, z2, z3, z4⟩
  exact ok_some ⟨z1, z2, fun j h1 h2 => by rw [z3 j h1 h2, msc, aSn, if_neg h2, msc, aSn, if_neg h1], fr_2 f2 z4⟩
def SQt (s : tS) (M : pm_M) : Prop := M 87 50 = s.1 ∧ M 87 51 = s.2.1 ∧ M 87 49 = (s.2.2.1 : Int) ∧ s.2.2.1 ≤ 8 ∧ ∀ i, i < s.2.2.1 → M 116 i = (s.2.2.2 i : Int)
/-- slots of the reference that tours leave alone -/
def s87 (M M' : pm_M) : Prop := ∀ j, j < 47 ∨ 51 < j → M' 87 j = M 87 j
theorem q_kpL {f : Nat → Nat} {N : Nat} (hN : N ≤ 8) : ∀ (t n q : Nat) (M : pm_M), q + t = N → t < n → (∀ i, i < N → M 115 i = (f i : Int)) → (∀ i, i < q → M 116 i = (f i : Int)) → ok (f_Q_keepsTour_L56 n N q M) (fun M' => (∀ i, i < N → M' 116 i = (f i : Int)) ∧ fr [116] M M') := by
  intro t
  induction t with
  | zero =>
    intro n q M hq hn h115 h116
    cases n with
    | zero => omega
    | succ n =>
      unfold f_Q_keepsTour_L56
      exact ok_pos (by omega) (ok_some ⟨fun i hi => h116 i (by omega), fr_rf _ _⟩)
  | succ t ih =>
    intro n q M hq hn h115 h116
    cases n with
    | zero => omega
    | succ n =>
      unfold f_Q_keepsTour_L56
      rw [tn_nat, h115 q (by omega), i_ad_eq (by omega)]
      refine ok_neg (by omega) (ok_pos (by omega) (ok_pos (by omega) (ok_bd (ok_mono (ih n (q + 1) _ (by omega) (by omega) (fun i hi => by rw [msn, if_neg (by omega)]; exact h115 i hi) (fun i hi => ?_)) (fun M' h => ⟨h.1, fr_2 (fr_ms (by decide)) h.2⟩)))))
      rw [msc, aSn]
      by_cases e : i = q
      · rw [if_pos e, e]
      · rw [if_neg e]; exact h116 i (by omega)
theorem q_keeps {M : pm_M} {f : Nat → Nat} {N : Nat} {s : tS} {v m : Int} (hN : N ≤ 8) (h115 : ∀ i, i < N → M 115 i = (f i : Int)) (h47 : M 87 47 = v) (h48 : M 87 48 = m) (hs : SQt s M ∨ (M 87 50 = s.1 ∧ s.1 < v)) : ok (f_Q_keepsTour N M) (fun M' => SQt (upT s v m N f) M' ∧ s87 M M' ∧ fr [87, 116] M M') := by
  have e50 : M 87 50 = s.1 := by rcases hs with h | h <;> exact h.1
  have upd : (s.1 < v ∨ (v = s.1 ∧ m < s.2.1)) → ok (pm_bd (pm_ms M 87 50 v) fun M1252 => pm_bd (pm_ms M1252 87 51 (M1252 87 48)) fun M1253 => pm_bd (pm_ms M1253 87 49 N) fun M1254 => (f_Q_keepsTour_L56 pm_F N 0 M1254).bind fun e1256 => some e1256) (fun M' => SQt (upT s v m N f) M' ∧ s87 M M' ∧ fr [87, 116] M M') := by
    intro hc
    refine ok_bd (ok_bd (ok_bd ?_))
    have e48 : (pm_ms M 87 50 v) 87 48 = m := by rw [msc, aSn, if_neg (by omega)]; exact h48
    rw [e48]
    generalize hM3 : pm_ms (pm_ms (pm_ms M 87 50 v) 87 51 m) 87 49 (N : Int) = M3
    have f3 : fr [87] M M3 := by rw [← hM3]; exact fr_2 (fr_2 (fr_ms (by decide)) (fr_ms (by decide))) (fr_ms (by decide))
    have c87 : M3 87 = aS (aS (aS (M 87) 50 v) 51 m) 49 N := by rw [← hM3, msc, msc, msc]
    refine ok_bind (q_kpL (f := f) hN N pm_F 0 M3 (by omega) (by unfold pm_F; omega) (fun i hi => by rw [f3 115 (by decide)]; exact h115 i hi) (fun i hi => by omega)) ?_
    rintro M4 ⟨z1, z2⟩
    have d87 : M4 87 = M3 87 := z2 87 (by decide)
    refine ok_some ⟨?_, fun j hj => ?_, fr_tr f3 z2 (by decide) (by decide)⟩
    · unfold upT
      rw [if_pos hc]
      refine ⟨?_, ?_, ?_, hN, z1⟩
      · rw [d87, c87, aSn, if_neg (by omega), aSn, if_neg (by omega), aSn, if_pos rfl]
      · rw [d87, c87, aSn, if_neg (by omega), aSn, if_pos rfl]
      · rw [d87, c87, aSn, if_pos rfl]
    · rw [d87, c87, aSn, if_neg (by omega), aSn, if_neg (by omega), aSn, if_neg (by omega)]
  unfold f_Q_keepsTour
  rw [h47, e50]
  by_cases c1 : s.1 < v
  · exact ok_pos c1 (upd (Or.inl c1))
  · have hS : SQt s M := by rcases hs with h | h; exact h; exact absurd h.2 c1
    have keep : ¬ (s.1 < v ∨ (v = s.1 ∧ m < s.2.1)) → ok (some M) (fun M' => SQt (upT s v m N f) M' ∧ s87 M M' ∧ fr [87, 116] M M') := by
      intro hc
      refine ok_some ⟨?_, fun _ _ => rfl, fr_rf _ _⟩
      unfold upT; rw [if_neg hc]; exact hS
    rw [hS.2.1, h48]
    refine ok_neg c1 (ok_ite (fun c2 => ok_ite (fun c3 => keep (by omega)) (fun c3 => upd (Or.inr ⟨c2, by omega⟩))) (fun c2 => keep (by omega)))
theorem q_onL {M : pm_M} {f : Nat → Nat} {N c : Nat} (hN : N ≤ 8) (h115 : ∀ i, i < N → M 115 i = (f i : Int)) : ∀ (t n q : Nat), q + t = N → t < n → f_Q_isOnWay_L5 M n c N (if onw f q c then 1 else 0) q = some (if onw f N c then 1 else 0) := by
  intro t
  induction t with
  | zero =>
    intro n q hq hn
    cases n with
    | zero => omega
    | succ n =>
      unfold f_Q_isOnWay_L5
      rw [if_pos (by omega), show q = N by omega]
  | succ t ih =>
    intro n q hq hn
    cases n with
    | zero => omega
    | succ n =>
      have := ih n (q + 1) (by omega) (by omega)
      unfold f_Q_isOnWay_L5
      rw [if_neg (by omega), tn_nat, h115 q (by omega), i_ad_eq (by omega)]
      rw [onw, show ((q + 1 : Nat) : Int) = (q : Int) + 1 by omega] at this
      cases ho : onw f q c
      · rw [ho] at this
        rw [if_pos (by simp), if_pos (by omega)]
        by_cases e : f q = c
        · rw [if_pos (by omega)]
          simpa [e] using this
        · rw [if_neg (by omega)]
          simpa [e] using this
      · rw [ho] at this
        rw [if_neg (by simp)]
        simpa using this
theorem q_on {M : pm_M} {f : Nat → Nat} {N c : Nat} (hN : N ≤ 8) (h115 : ∀ i, i < N → M 115 i = (f i : Int)) : f_Q_isOnWay c N M = some (if onw f N c then 1 else 0) := by
  unfold f_Q_isOnWay
  have := q_onL (c := c) hN h115 N pm_F 0 (by omega) (by unfold pm_F; omega)
  rw [show ((if onw f 0 c then 1 else 0 : Int)) = 0 from rfl, show ((0 : Nat) : Int) = 0 from rfl] at this
  rw [this, ob, if_pos]
  split <;> simp
def cst (P : Nat) : Nat → Nat → Nat
  | _, 0 => 1
  | 0, t + 1 => 1 + cst P 0 t
  | l + 1, t + 1 => 1 + cst P l P + cst P (l + 1) t
theorem s87_tr {M M1 M2 : pm_M} (h1 : s87 M M1) (h2 : s87 M1 M2) : s87 M M2 := fun j hj => (h2 j hj).trans (h1 j hj)
theorem SQt_fr {s : tS} {M M' : pm_M} (h : SQt s M) (h1 : ∀ j, 49 ≤ j → j ≤ 51 → M' 87 j = M 87 j) (h2 : M' 116 = M 116) : SQt s M' := ⟨by rw [h1 50 (by omega) (by omega)]; exact h.1, by rw [h1 51 (by omega) (by omega)]; exact h.2.1, by rw [h1 49 (by omega) (by omega)]; exact h.2.2.1, h.2.2.2.1, fun i hi => by rw [h2]; exact h.2.2.2.2 i hi⟩
/-- one turn of the reference's loop -/
theorem q_iter (hA : WF A) (hP : A 0 = P) {k n c : Nat} {f : Nat → Nat} {s : tS} {M : pm_M} (hk : 1 ≤ k ∧ k ≤ 7) (hc : c < P) (hM : M 88 = A) (h115 : ∀ i, i < k → M 115 i = (f i : Int)) (hkc : M 115 k = (c : Int) - 1) (hf : ∀ i, i < k → f i < 8) (hS : SQt s M) :
    ∃ M', ((¬ (onw f k c = false ∧ wm A f k + apA A (f (k - 1)) c ≤ lim) ∧ f_Q_tours_L31 (n + 1) lim k M = f_Q_tours_L31 n lim k M' ∧ SQt s M') ∨ ((onw f k c = false ∧ wm A f k + apA A (f (k - 1)) c ≤ lim) ∧ SQt (upT s (wv A f k + vwA A c) (wm A f k + apA A (f (k - 1)) c) (k + 1) (aN f k c)) M' ∧ (k = 7 → f_Q_tours_L31 (n + 1) lim k M = f_Q_tours_L31 n lim k M') ∧ (k < 7 → f_Q_tours_L31 (n + 1) lim k M = f_Q_tours_L31 n lim ((k : Int) + 1) (pm_ms M' 115 (k + 1) (-1))))) ∧ M' 115 = aS (M 115) k c ∧ s87 M M' ∧ fr [87, 115, 116] M M' := by
  have w0 := hA.1
  generalize hM1 : pm_ms M 115 k (c : Int) = M1
  have f1 : fr [115] M M1 := by rw [← hM1]; exact fr_ms (by decide)
  have m115 : M1 115 = aS (M 115) k c := by rw [← hM1, msc]
  have m1k : M1 115 k = c := by rw [m115, aSn, if_pos rfl]
  have m1i : ∀ i, i < k + 1 → M1 115 i = (aN f k c i : Int) := by
    intro i hi
    rw [m115, aSn]
    unfold aN
    by_cases e : i = k
    · rw [if_pos e, if_pos e]
    · rw [if_neg e, if_neg e]; exact h115 i (by omega)
  have hS1 : SQt s M1 := SQt_fr hS (fun j _ _ => by rw [f1 87 (by decide)]) (f1 116 (by decide))
  have hf1 : ∀ i, i < k + 1 → aN f k c i < 8 := by
    intro i hi
    unfold aN
    by_cases e : i = k
    · rw [if_pos e]; omega
    · rw [if_neg e]; exact hf i (by omega)
  have pre : f_Q_tours_L31 (n + 1) lim k M = (f_Q_isOnWay c k M1).bind fun r1265 => if r1265 = 0 then ((f_Q_asksTour ((k + 1 : Nat) : Int) M1).bind fun M1266 => if lim < (M1266 87 48) then (f_Q_tours_L31 n lim k M1266) else ((f_Q_keepsTour ((k + 1 : Nat) : Int) M1266).bind fun M1267 => if 7 ≤ (k : Int) then (f_Q_tours_L31 n lim k M1267) else (if 0 ≤ (((k + 1 : Nat) : Int)) ∧ (((k + 1 : Nat) : Int)) < 8 then (f_Q_tours_L31 n lim ((k + 1 : Nat) : Int) (pm_ms M1267 115 (k + 1) (-1))) else none))) else (f_Q_tours_L31 n lim k M1) := by
    rw [f_Q_tours_L31, if_neg (by omega), if_pos (by omega), if_pos (by omega), tn_nat, hkc, i_ad_eq (a := (c : Int) - 1) (by omega), show (c : Int) - 1 + 1 = (c : Int) by omega, hM1]
    dsimp only [pm_bd]
    rw [m1k, if_pos (by omega), f1 88 (by decide), hM, if_pos (by omega), if_pos (by omega), i_ad_eq (a := (k : Int)) (b := 1) (by omega), show (k : Int) + 1 = ((k + 1 : Nat) : Int) by omega, tn_nat]
  have hon := q_on (M := M1) (f := f) (N := k) (c := c) (by omega) (fun i hi => by rw [m115, aSn, if_neg (by omega)]; exact h115 i hi)
  rw [hon, ob] at pre
  cases ho : onw f k c
  · rw [ho, if_pos (by decide)] at pre
    obtain ⟨M2, e2, a47, a48, aj, af⟩ := q_asks (M := M1) hA (f := aN f k c) (N := k + 1) (by omega) hf1 (by rw [f1 88 (by decide)]; exact hM) m1i
    rw [wv_aN] at a47
    rw [wm_aN A f c hk.1] at a48
    rw [e2, ob, a48] at pre
    have f2 : fr [87, 115, 116] M M2 := fr_tr f1 af (by decide) (by decide)
    have m2 : M2 115 = aS (M 115) k c := by rw [af 115 (by decide)]; exact m115
    have s2 : s87 M M2 := fun j hj => by rw [aj j (by omega) (by omega), f1 87 (by decide)]
    have hS2 : SQt s M2 := SQt_fr hS1 (fun j h1 h2 => aj j (by omega) (by omega)) (af 116 (by decide))
    by_cases hl : lim < wm A f k + apA A (f (k - 1)) c
    · rw [if_pos hl] at pre
      exact ⟨M2, Or.inl ⟨fun z => by have := z.2; omega, pre, hS2⟩, m2, s2, f2⟩
    · rw [if_neg hl] at pre
      obtain ⟨M3, e3, b1, b2, b3⟩ := q_keeps (M := M2) (f := aN f k c) (N := k + 1) (by omega) (fun i hi => by rw [af 115 (by decide)]; exact m1i i hi) a47 a48 (Or.inl hS2)
      rw [e3, ob] at pre
      refine ⟨M3, Or.inr ⟨⟨rfl, by omega⟩, b1, fun h7 => ?_, fun h7 => ?_⟩, by rw [b3 115 (by decide)]; exact m2, s87_tr s2 b2, fr_tr f2 b3 (by decide) (by decide)⟩
      · rw [if_pos (by omega)] at pre; exact pre
      · rw [if_neg (by omega), if_pos (by omega)] at pre
        rw [pre]; rfl
  · rw [ho, if_neg (by decide)] at pre
    exact ⟨M1, Or.inl ⟨fun z => by simp at z, pre, hS1⟩, m115, fun j _ => by rw [f1 87 (by decide)], fr_mo f1 (by decide)⟩
/-- a loop of the reference through one plinth's ways on -/
theorem q_loop (hA : WF A) (hP : A 0 = P) (hlim : 0 ≤ lim ∧ lim ≤ 999) : ∀ (l t k n c : Nat) (f : Nat → Nat) (s : tS) (M : pm_M), k + l = 7 → 1 ≤ k → c + t = P → cst P l t ≤ n → M 88 = A → (∀ i, i < k → M 115 i = (f i : Int)) → M 115 k = (c : Int) - 1 → (∀ i, i < k → f i < 8) → SQt s M →
    ∃ n' M', f_Q_tours_L31 n lim k M = f_Q_tours_L31 n' lim ((k : Int) - 1) M' ∧ n ≤ n' + cst P l t ∧ (∀ i, i < k → M' 115 i = (f i : Int)) ∧ SQt (dfL (chd (apA A) (vwA A) lim P l k f (wm A f k) (wv A f k)) t c s) M' ∧ s87 M M' ∧ fr [87, 115, 116] M M' := by
  have w0 := hA.1
  intro l
  induction l with
  | zero =>
    intro t
    induction t with
    | zero =>
      intro k n c f s M hk hk1 hc hn hM h115 hkc hf hS
      rw [cst] at hn
      cases n with
      | zero => omega
      | succ n =>
        refine ⟨n, pm_ms M 115 k c, ?_, by rw [cst]; omega, fun i hi => by rw [msc, aSn, if_neg (by omega)]; exact h115 i hi, ?_, fun _ _ => by rw [msn, if_neg (by omega)], fr_ms (by decide)⟩
        · rw [f_Q_tours_L31, if_neg (by omega), if_pos (by omega), if_pos (by omega), tn_nat, hkc, i_ad_eq (by omega), show (c : Int) - 1 + 1 = (c : Int) by omega]
          dsimp only [pm_bd]
          rw [if_pos (by omega), msc, aSn, if_pos rfl, pm_ms_ne (by omega), hM, if_neg (by omega), i_ad_eq (by omega)]
          rfl
        · exact ⟨by rw [pm_ms_ne (by omega)]; exact hS.1, by rw [pm_ms_ne (by omega)]; exact hS.2.1, by rw [pm_ms_ne (by omega)]; exact hS.2.2.1, hS.2.2.2.1, fun i hi => by rw [pm_ms_ne (by omega)]; exact hS.2.2.2.2 i hi⟩
    | succ t iht =>
      intro k n c f s M hk hk1 hc hn hM h115 hkc hf hS
      rw [cst] at hn ⊢
      cases n with
      | zero => omega
      | succ n =>
        obtain ⟨M1, hd, m115, s1, f1⟩ := q_iter (n := n) (lim := lim) hA hP (by omega) (by omega) hM h115 hkc hf hS
        have nxt : ∀ s1 : tS, chd (apA A) (vwA A) lim P 0 k f (wm A f k) (wv A f k) c s = s1 → SQt s1 M1 → f_Q_tours_L31 (n + 1) lim k M = f_Q_tours_L31 n lim k M1 → ∃ n' M', f_Q_tours_L31 (n + 1) lim k M = f_Q_tours_L31 n' lim ((k : Int) - 1) M' ∧ n + 1 ≤ n' + (1 + cst P 0 t) ∧ (∀ i, i < k → M' 115 i = (f i : Int)) ∧ SQt (dfL (chd (apA A) (vwA A) lim P 0 k f (wm A f k) (wv A f k)) (t + 1) c s) M' ∧ s87 M M' ∧ fr [87, 115, 116] M M' := by
          intro s1' e1 hS1 e2
          obtain ⟨n', M', g1, g2, g3, g4, g5, g6⟩ := iht k n (c + 1) f s1' M1 hk hk1 (by omega) (by omega) (by rw [f1 88 (by decide)]; exact hM) (fun i hi => by rw [m115, aSn, if_neg (by omega)]; exact h115 i hi) (by rw [m115, aSn, if_pos rfl]; omega) hf hS1
          exact ⟨n', M', by rw [e2, g1], by omega, g3, by rw [dfL, e1]; exact g4, s87_tr s1 g5, fr_2 f1 g6⟩
        rcases hd with ⟨d1, d2, d3⟩ | ⟨d1, d2, d3, d4⟩
        · exact nxt s (by unfold chd; rw [if_neg d1]) d3 d2
        · exact nxt _ (by unfold chd; rw [if_pos d1, dfs]) d2 (d3 (by omega))
  | succ l ihl =>
    intro t
    induction t with
    | zero =>
      intro k n c f s M hk hk1 hc hn hM h115 hkc hf hS
      rw [cst] at hn
      cases n with
      | zero => omega
      | succ n =>
        refine ⟨n, pm_ms M 115 k c, ?_, by rw [cst]; omega, fun i hi => by rw [msc, aSn, if_neg (by omega)]; exact h115 i hi, ?_, fun _ _ => by rw [msn, if_neg (by omega)], fr_ms (by decide)⟩
        · rw [f_Q_tours_L31, if_neg (by omega), if_pos (by omega), if_pos (by omega), tn_nat, hkc, i_ad_eq (by omega), show (c : Int) - 1 + 1 = (c : Int) by omega]
          dsimp only [pm_bd]
          rw [if_pos (by omega), msc, aSn, if_pos rfl, pm_ms_ne (by omega), hM, if_neg (by omega), i_ad_eq (by omega)]
          rfl
        · exact SQt_fr hS (fun j _ _ => by rw [pm_ms_ne (by omega)]) (pm_ms_ne (by omega))
    | succ t iht =>
      intro k n c f s M hk hk1 hc hn hM h115 hkc hf hS
      rw [cst] at hn ⊢
      cases n with
      | zero => omega
      | succ n =>
        obtain ⟨M1, hd, m115, s1, f1⟩ := q_iter (n := n) (lim := lim) hA hP (by omega) (by omega) hM h115 hkc hf hS
        have m88 : M1 88 = A := by rw [f1 88 (by decide)]; exact hM
        have nxt : ∀ (n2 : Nat) (M2 : pm_M) (s1' : tS), chd (apA A) (vwA A) lim P (l + 1) k f (wm A f k) (wv A f k) c s = s1' → SQt s1' M2 → f_Q_tours_L31 (n + 1) lim k M = f_Q_tours_L31 n2 lim k M2 → n ≤ n2 + cst P l P → (∀ i, i < k → M2 115 i = (f i : Int)) → M2 115 k = (c : Int) → s87 M M2 → fr [87, 115, 116] M M2 → ∃ n' M', f_Q_tours_L31 (n + 1) lim k M = f_Q_tours_L31 n' lim ((k : Int) - 1) M' ∧ n + 1 ≤ n' + (1 + cst P l P + cst P (l + 1) t) ∧ (∀ i, i < k → M' 115 i = (f i : Int)) ∧ SQt (dfL (chd (apA A) (vwA A) lim P (l + 1) k f (wm A f k) (wv A f k)) (t + 1) c s) M' ∧ s87 M M' ∧ fr [87, 115, 116] M M' := by
          intro n2 M2 s1' e1 hS1 e2 hn2 k115 kk sM fM
          obtain ⟨n', M', g1, g2, g3, g4, g5, g6⟩ := iht k n2 (c + 1) f s1' M2 hk hk1 (by omega) (by omega) (by rw [fM 88 (by decide)]; exact hM) k115 (by rw [kk]; omega) hf hS1
          exact ⟨n', M', by rw [e2, g1], by omega, g3, by rw [dfL, e1]; exact g4, s87_tr sM g5, fr_2 fM g6⟩
        have k115 : ∀ i, i < k → M1 115 i = (f i : Int) := fun i hi => by rw [m115, aSn, if_neg (by omega)]; exact h115 i hi
        have kk : M1 115 k = (c : Int) := by rw [m115, aSn, if_pos rfl]
        rcases hd with ⟨d1, d2, d3⟩ | ⟨d1, d2, d3, d4⟩
        · exact nxt n M1 s (by unfold chd; rw [if_neg d1]) d3 d2 (by omega) k115 kk s1 f1
        · have f2 : fr [115] M1 (pm_ms M1 115 (k + 1) (-1)) := fr_ms (by decide)
          have hf1 : ∀ i, i < k + 1 → aN f k c i < 8 := by
            intro i hi
            unfold aN
            by_cases e : i = k
            · rw [if_pos e]; omega
            · rw [if_neg e]; exact hf i (by omega)
          obtain ⟨n2, M2, g1, g2, g3, g4, g5, g6⟩ := ihl P (k + 1) n 0 (aN f k c) _ (pm_ms M1 115 (k + 1) (-1)) (by omega) (by omega) (by omega) (by omega) (by rw [f2 88 (by decide)]; exact m88) (fun i hi => by
            rw [msc, aSn, if_neg (by omega)]
            unfold aN
            by_cases e : i = k
            · rw [if_pos e, e, kk]
            · rw [if_neg e]; exact k115 i (by omega)) (by rw [msc, aSn, if_pos rfl]; rfl) hf1 (SQt_fr d2 (fun j _ _ => by rw [f2 87 (by decide)]) (f2 116 (by decide)))
          refine nxt n2 M2 _ (by unfold chd; rw [if_pos d1, dfs_s]) ?_ (by rw [d4 (by omega), show (k : Int) + 1 = ((k + 1 : Nat) : Int) by omega, g1, show ((k + 1 : Nat) : Int) - 1 = (k : Int) by omega]) g2 (fun i hi => ?_) ?_ (s87_tr s1 (s87_tr (fun j _ => by rw [f2 87 (by decide)]) g5)) (fr_2 f1 (fr_tr f2 g6 (by decide) (by decide)))
          · rw [wv_aN, wm_aN A f c hk1] at g4
            exact g4
          · rw [g3 i (by omega)]
            unfold aN
            rw [if_neg (by omega)]
          · rw [g3 k (by omega)]
            unfold aN
            rw [if_pos rfl]
theorem cst_0 : ∀ t, cst P 0 t = t + 1
  | 0 => by rw [cst]
  | t + 1 => by rw [cst, cst_0 t]; omega
theorem cst_s (l : Nat) : ∀ t, cst P (l + 1) t = 1 + t * (1 + cst P l P)
  | 0 => by rw [cst]; omega
  | t + 1 => by rw [cst, cst_s l t, Nat.add_mul]; omega
theorem cst_u (hP : P ≤ 8) {l b : Nat} (h : cst P l P ≤ b) : cst P (l + 1) P ≤ 1 + 8 * (1 + b) := by
  rw [cst_s]
  have := Nat.mul_le_mul hP (show 1 + cst P l P ≤ 1 + b by omega)
  omega
theorem cst_b (hP : P ≤ 8) : cst P 6 P + 1 ≤ 1000000000 := by
  have h0 : cst P 0 P ≤ 9 := by rw [cst_0]; omega
  have h6 : cst P 6 P ≤ _ := cst_u hP (cst_u hP (cst_u hP (cst_u hP (cst_u hP (cst_u hP h0)))))
  omega
end
