/-! THE READERS SIDE BY SIDE: what a simulation says -/
theorem L_stop {Q : pm_M} (n : Nat) (h : Q 87 18 ≠ 0) : f_Q_text_L74 (n + 1) Q = some Q := by rw [f_Q_text_L74, if_neg h]
theorem L_end {Q : pm_M} (n : Nat) (h : Q 87 18 = 0) (h4 : Q 87 27 = 4) (h0 : Q 87 16 = 0) : f_Q_text_L74 (n + 1) Q = some Q := by rw [f_Q_text_L74, if_pos h, if_pos h4, if_pos h0]
theorem L_0 {Q : pm_M} (n : Nat) (h : Q 87 18 = 0) (h4 : Q 87 27 = 0) : f_Q_text_L74 (n + 1) Q = (f_Q_asks Q).bind (f_Q_text_L74 n) := by
  rw [f_Q_text_L74, if_pos h, if_neg (by omega), if_pos h4]
theorem L_1 {Q : pm_M} (n : Nat) (h : Q 87 18 = 0) (h4 : Q 87 27 = 1) : f_Q_text_L74 (n + 1) Q = (f_Q_begins Q).bind (f_Q_text_L74 n) := by
  rw [f_Q_text_L74, if_pos h, if_neg (by omega), if_neg (by omega), if_pos h4]
theorem L_2 {Q : pm_M} (n : Nat) (h : Q 87 18 = 0) (h4 : Q 87 27 = 2) : f_Q_text_L74 (n + 1) Q = (f_Q_goesOn Q).bind (f_Q_text_L74 n) := by
  rw [f_Q_text_L74, if_pos h, if_neg (by omega), if_neg (by omega), if_neg (by omega), if_pos h4]
theorem L_3 {Q : pm_M} (n : Nat) (h : Q 87 18 = 0) (h4 : Q 87 27 = 3) : f_Q_text_L74 (n + 1) Q = (f_Q_asksOn Q).bind (f_Q_text_L74 n) := by
  rw [f_Q_text_L74, if_pos h, if_neg (by omega), if_neg (by omega), if_neg (by omega), if_neg (by omega), if_pos h4]
theorem L_4 {Q : pm_M} (n : Nat) (h : Q 87 18 = 0) (h4 : Q 87 27 = 4) (h0 : Q 87 16 ≠ 0) : f_Q_text_L74 (n + 1) Q = (f_Q_clause Q).bind (f_Q_text_L74 n) := by
  rw [f_Q_text_L74, if_pos h, if_pos h4, if_neg h0, if_neg (by omega), if_neg (by omega), if_neg (by omega), if_neg (by omega)]
-- the class's text under way
def XS (X : pm_M) (t0 : Nat) (cl : List (Int × Int)) : Prop := X 66 1 = ((t0 + 1 : Nat) : Int) ∧ X t0 6 = cl.length ∧ cdX (X (t0 + 5)) 0 cl
def tx4 (t0 : Nat) : Prop := t0 = 40 ∨ t0 = 46 ∨ t0 = 52 ∨ t0 = 58
/-- what stays in the class while an expression is read -/
def gx (t0 : Nat) (X X' : pm_M) : Prop := fr [66, t0, t0 + 5] X X' ∧ (∀ k, k ≠ 6 → X' t0 k = X t0 k) ∧ X' 66 1 = X 66 1 ∧ X' 66 2 = X 66 2
theorem gx_rf (t0 : Nat) (X : pm_M) : gx t0 X X := ⟨fr_rf _ _, fun _ _ => rfl, rfl, rfl⟩
theorem gx_tr {t0 : Nat} {X X1 X2 : pm_M} (h1 : gx t0 X X1) (h2 : gx t0 X1 X2) : gx t0 X X2 := ⟨fr_tr h1.1 h2.1 (fun _ h => h) (fun _ h => h), fun k hk => (h2.2.1 k hk).trans (h1.2.1 k hk), h2.2.2.1.trans h1.2.2.1, h2.2.2.2.trans h1.2.2.2⟩
theorem gx_fs {t0 : Nat} {X X' : pm_M} {S : List Nat} (ht : tx4 t0) (h : fs 66 S X X') (h1 : 1 ∉ S) (h2 : 2 ∉ S) : gx t0 X X' :=
  ⟨fr_mo h.1 (fun c hc => by rw [List.mem_singleton.mp hc]; exact List.mem_cons_self ..), fun k _ => by rw [fs_o h (by rcases ht with e | e | e | e <;> omega)], h.2 1 h1, h.2 2 h2⟩
theorem XS_fs {t0 : Nat} {X X' : pm_M} {S : List Nat} {cl : List (Int × Int)} (ht : tx4 t0) (H : XS X t0 cl) (h : fs 66 S X X') (h1 : 1 ∉ S) : XS X' t0 cl := by
  unfold XS
  rw [h.2 1 h1, fs_o h (a := t0) (by rcases ht with e | e | e | e <;> omega), fs_o h (a := t0 + 5) (by rcases ht with e | e | e | e <;> omega)]
  exact H
theorem t_or {t0 : Nat} {v : Int} (ht : tx4 t0) (h : v = ((t0 + 1 : Nat) : Int)) : (v = 41 ∨ v = 47 ∨ v = 53 ∨ v = 59) ∧ (v - 1).toNat = t0 := by
  unfold tx4 at ht; omega
theorem x_emitT {t0 : Nat} {X : pm_M} {cl : List (Int × Int)} (ht : tx4 t0) (H : XS X t0 cl) (hl : cl.length < 300) (c : Int × Int) : ∃ X', f_Text_emit t0 (oc c) X = some X' ∧ XS X' t0 (cl ++ [c]) ∧ gx t0 X X' ∧ X' 66 = X 66 := by
  have h66 : t0 ≠ 66 ∧ t0 + 5 ≠ 66 := by unfold tx4 at ht; omega
  unfold f_Text_emit
  rw [H.2.1, if_neg (by omega), if_pos (by omega), tn_nat, pbd, pbd]
  have e1 : pm_ms X (t0 + 1 + 4) cl.length (oc c) t0 6 = cl.length := by rw [ms_nc _ _ _ _ (by omega)]; exact H.2.1
  rw [e1, i_ad_eq (by omega)]
  generalize hX : pm_ms (pm_ms X (t0 + 1 + 4) cl.length (oc c)) t0 6 ((cl.length : Int) + 1) = X'
  have e66 : X' 66 = X 66 := by rw [← hX, ms_nc _ _ _ _ (by omega), ms_nc _ _ _ _ (by omega)]
  refine ⟨X', rfl, ⟨by rw [e66]; exact H.1, ?_, ?_⟩, ⟨?_, ?_, by rw [e66], by rw [e66]⟩, e66⟩
  · rw [← hX, ms_at, List.length_append]; rfl
  · rw [← hX, ms_nc _ _ _ _ (by omega), msc]
    exact cdX_snoc H.2.2
  · rw [← hX]
    exact fr_tr (fr_ms (S := [66, t0, t0 + 5]) (List.mem_cons_of_mem _ (List.mem_cons_of_mem _ (List.mem_cons_self ..)))) (fr_ms (S := [66, t0, t0 + 5]) (List.mem_cons_of_mem _ (List.mem_cons_self ..))) (fun _ h => h) (fun _ h => h)
  · intro k hk
    rw [← hX, ms_nj _ _ _ _ hk, ms_nc _ _ _ _ (by omega)]
theorem x_emit {t0 : Nat} {X : pm_M} {cl : List (Int × Int)} (ht : tx4 t0) (H : XS X t0 cl) (hl : cl.length < 300) {x : Int} {c : Int × Int} (hx : oc c = 10000 + x) (hx2 : 0 ≤ x ∧ x ≤ 40) : ∃ X', f_Reader_emit x X = some X' ∧ XS X' t0 (cl ++ [c]) ∧ gx t0 X X' ∧ X' 66 = X 66 := by
  obtain ⟨X', a1, a2⟩ := x_emitT ht H hl c
  refine ⟨X', ?_, a2⟩
  have := t_or ht H.1
  unfold f_Reader_emit
  rw [if_pos this.1, this.2, i_ad_eq (by omega), ← hx, a1, ob]
/-- a failed reading may still emit -/
def lo3 (t0 : Nat) (X : pm_M) : Prop := X 66 1 = ((t0 + 1 : Nat) : Int) ∧ 0 ≤ X t0 6 ∧ X t0 6 ≤ 300
theorem XS_lo {t0 : Nat} {X : pm_M} {cl : List (Int × Int)} (H : XS X t0 cl) (h : cl.length ≤ 300) : lo3 t0 X := ⟨H.1, by rw [H.2.1]; omega, by rw [H.2.1]; omega⟩
theorem x_emit0 {t0 : Nat} {X : pm_M} (ht : tx4 t0) (H : lo3 t0 X) (x : Int) : ∃ X', f_Reader_emit x X = some X' ∧ lo3 t0 X' ∧ gx t0 X X' ∧ X' 66 = X 66 := by
  have h66 : t0 ≠ 66 ∧ t0 + 5 ≠ 66 := by unfold tx4 at ht; omega
  have hh := t_or ht H.1
  unfold f_Reader_emit f_Text_emit
  rw [if_pos hh.1, hh.2]
  by_cases h : 300 ≤ X t0 6
  · rw [if_pos h, ob]
    exact ⟨X, rfl, H, gx_rf _ _, rfl⟩
  · obtain ⟨m, hm⟩ : ∃ m : Nat, X t0 6 = m := ⟨(X t0 6).toNat, by have := H.2; omega⟩
    rw [hm] at h ⊢
    rw [if_neg h, if_pos (by omega), tn_nat, pbd, pbd]
    have e1 : pm_ms X (t0 + 1 + 4) m (i_ad 10000 x) t0 6 = m := by rw [ms_nc _ _ _ _ (by omega)]; exact hm
    rw [e1, i_ad_eq (b := 1) (by omega), ob]
    generalize hX : pm_ms (pm_ms X (t0 + 1 + 4) m (i_ad 10000 x)) t0 6 ((m : Int) + 1) = X'
    have e66 : X' 66 = X 66 := by rw [← hX, ms_nc _ _ _ _ (by omega), ms_nc _ _ _ _ (by omega)]
    refine ⟨X', rfl, ⟨by rw [e66]; exact H.1, by rw [← hX, ms_at]; omega, by rw [← hX, ms_at]; omega⟩, ⟨?_, ?_, by rw [e66], by rw [e66]⟩, e66⟩
    · rw [← hX]
      exact fr_tr (fr_ms (S := [66, t0, t0 + 5]) (List.mem_cons_of_mem _ (List.mem_cons_of_mem _ (List.mem_cons_self ..)))) (fr_ms (S := [66, t0, t0 + 5]) (List.mem_cons_of_mem _ (List.mem_cons_self ..))) (fun _ h => h) (fun _ h => h)
    · intro k hk
      rw [← hX, ms_nj _ _ _ _ hk, ms_nc _ _ _ _ (by omega)]
-- the claim
def CC : List Nat := [87, 98, 99, 100, 101, 106, 107]
def SS : List Nat := [14, 15, 16, 17, 20, 21, 24, 27, 34]
def SF : List Nat := [14, 15, 16, 17, 18, 19, 20, 21, 24, 27, 34]
def SY (t0 N : Nat) (X Q : pm_M) (cl : List (Int × Int)) : Prop := TPX X Q N ∧ TK N X Q ∧ XS X t0 cl ∧ X 66 2 = Q 87 29
/-- an ask takes a turn more ahead of its first token -/
def slk (Q : pm_M) : Nat := if Q 87 27 = 0 then 1 else 0
theorem slk_le (Q : pm_M) : slk Q ≤ 1 := by unfold slk; split <;> omega
def FLS (t0 N : Nat) (X Q : pm_M) (p : Nat) (y : Int × pm_M) : Prop :=
  y.1 = 0 ∧ gx t0 X y.2 ∧ lo3 t0 y.2 ∧ ∃ (c : Nat) (Q' : pm_M), c ≤ 3 * (N - p) + 2 + slk Q ∧ (∀ n, f_Q_text_L74 (n + c) Q = some Q') ∧ Q' 87 18 = y.2 66 7 ∧ Q' 87 19 = y.2 66 8 ∧ 0 < y.2 66 7 ∧ fz CC SF Q Q'
def SUC (t0 N : Nat) (E : pm_M → pm_M → Nat → Prop) (P : List (Int × Int) → Prop) (o : Nat) (frs : List Int) (ws cl ql : List (Int × Int)) (L : Int) (bb : Bool) (C : List Nat) (s : List Bool) (X Q : pm_M) (p : Nat) (y : Int × pm_M) : Prop :=
  y.1 = 1 ∧ gx t0 X y.2 ∧ y.2 66 7 = X 66 7 ∧ y.2 66 8 = X 66 8 ∧ ∃ (lq pend : List (Int × Int)) (Q' : pm_M) (c p' : Nat), Q' 87 15 = p' ∧ p < p' ∧ c ≤ 3 * (p' - p) ∧ SY t0 N y.2 Q' (cl ++ (lq ++ zw pend)) ∧ RS Q' o frs (pend ++ ws) (ql ++ lq) ∧ lq.length + pend.length ≤ p' - p ∧ P pend ∧ trs L (lq ++ zw pend) s (bb :: s) ∧ E Q Q' c ∧ fz C SS Q Q'
def SM (t0 N : Nat) (T : pm_M → Option (Int × pm_M)) (E : pm_M → pm_M → Nat → Prop) (st : Int) (P : List (Int × Int) → Prop) (o : Nat) (frs : List Int) (ws : List (Int × Int)) (L : Int) (bb : Bool) (C : List Nat) (sb : Nat) : Prop :=
  ∀ (X Q : pm_M) (cl ql : List (Int × Int)) (s : List Bool) (p : Nat), SY t0 N X Q cl → RS Q o frs ws ql → Q 87 27 = st → Q 87 29 = L → Q 87 15 = p → cl.length ≤ p → ql.length ≤ p + 24 → s.length ≤ sb →
    ok (T X) (fun y => FLS t0 N X Q p y ∨ SUC t0 N E P o frs ws cl ql L bb C s X Q p y)
/-- how a simulation ends -/
def E1 (Q Q' : pm_M) (c : Nat) : Prop := ∀ n, f_Q_text_L74 (n + c) Q = (f_Q_oneIsOver Q').bind (f_Q_text_L74 n)
def E3 (Q Q' : pm_M) (c : Nat) : Prop := ∀ n, f_Q_text_L74 (n + c) Q = (f_Q_askIsOver Q').bind (f_Q_text_L74 n)
def Ej (af : Int) (J : Int → Int → Prop) (Q Q' : pm_M) (c : Nat) : Prop := Q' 87 27 = af ∧ J (Q' 87 16) (Q' 87 17) ∧ ∀ n, f_Q_text_L74 (n + c) Q = f_Q_text_L74 n Q'
def J4 (a b : Int) : Prop := ¬ (a = 3 ∧ (b = 42 ∨ b = 47))
def J3 (a b : Int) : Prop := ¬ (a = 3 ∧ (b = 43 ∨ b = 45 ∨ b = 42 ∨ b = 47))
def J1 (a b : Int) : Prop := ¬ (a = 1 ∧ b = 12)
def J0 (a b : Int) : Prop := ¬ (a = 1 ∧ (b = 11 ∨ b = 12))
/-- the joiners that wait in this frame -/
def Pw (r : Int) (d F : Nat) (pend : List (Int × Int)) : Prop := pend.length ≤ d ∧ ∀ c ∈ pend, c.2 = (F : Int) ∧ r ≤ rkq c.1
