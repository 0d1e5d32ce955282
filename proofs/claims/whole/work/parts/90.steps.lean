/-! THE READERS' SMALL STEPS: the reference's frames, waits and code; the class's code -/
def cdq (f g : Nat → Int) : Nat → List (Int × Int) → Prop
  | _, [] => True
  | k, c :: l => f k = c.1 ∧ g k = c.2 ∧ cdq f g (k + 1) l
theorem cdq_aS {f g : Nat → Int} {a b : Int} : ∀ (l : List (Int × Int)) (k m : Nat), k + l.length ≤ m → cdq f g k l → cdq (aS f m a) (aS g m b) k l
  | [], _, _, _, _ => trivial
  | c :: l, k, m, hm, h => by
    rw [List.length_cons] at hm
    refine ⟨?_, ?_, cdq_aS l (k + 1) m (by omega) h.2.2⟩
    · rw [aSn, if_neg (by omega)]; exact h.1
    · rw [aSn, if_neg (by omega)]; exact h.2.1
theorem cdq_app {f g : Nat → Int} : ∀ (l l2 : List (Int × Int)) (k : Nat), cdq f g k l → cdq f g (k + l.length) l2 → cdq f g k (l ++ l2)
  | [], _, _, _, h => h
  | c :: l, l2, k, h, h2 => ⟨h.1, h.2.1, cdq_app l l2 (k + 1) h.2.2 (by rw [List.length_cons] at h2; rw [show k + 1 + l.length = k + (l.length + 1) by omega]; exact h2)⟩
theorem cdq_snoc {f g : Nat → Int} {a b : Int} {l : List (Int × Int)} (h : cdq f g 0 l) : cdq (aS f l.length a) (aS g l.length b) 0 (l ++ [(a, b)]) :=
  cdq_app l _ 0 (cdq_aS l 0 l.length (by omega) h) ⟨by rw [Nat.zero_add, aSn, if_pos rfl], by rw [Nat.zero_add, aSn, if_pos rfl], trivial⟩
theorem cdX_aS {f : Nat → Int} {a : Int} : ∀ (l : List (Int × Int)) (k m : Nat), k + l.length ≤ m → cdX f k l → cdX (aS f m a) k l
  | [], _, _, _, _ => trivial
  | c :: l, k, m, hm, h => by
    rw [List.length_cons] at hm
    refine ⟨?_, cdX_aS l (k + 1) m (by omega) h.2⟩
    rw [aSn, if_neg (by omega)]; exact h.1
theorem cdX_app {f : Nat → Int} : ∀ (l l2 : List (Int × Int)) (k : Nat), cdX f k l → cdX f (k + l.length) l2 → cdX f k (l ++ l2)
  | [], _, _, _, h => h
  | c :: l, l2, k, h, h2 => ⟨h.1, cdX_app l l2 (k + 1) h.2 (by rw [List.length_cons] at h2; rw [show k + 1 + l.length = k + (l.length + 1) by omega]; exact h2)⟩
theorem cdX_snoc {f : Nat → Int} {c : Int × Int} {l : List (Int × Int)} (h : cdX f 0 l) : cdX (aS f l.length (oc c)) 0 (l ++ [c]) :=
  cdX_app l _ 0 (cdX_aS l 0 l.length (by omega) h) ⟨by rw [Nat.zero_add, aSn, if_pos rfl], trivial⟩
/-- what stays in the reference: cells outside C, slots of cell 87 outside S -/
def fz (C S : List Nat) (Q Q' : pm_M) : Prop := fr C Q Q' ∧ ∀ k, k ∉ S → Q' 87 k = Q 87 k
theorem fz_rf (C S : List Nat) (M : pm_M) : fz C S M M := ⟨fr_rf _ _, fun _ _ => rfl⟩
theorem fz_tr {C S C1 S1 C2 S2 : List Nat} {M M1 M2 : pm_M} (h1 : fz C1 S1 M M1) (h2 : fz C2 S2 M1 M2) (c1 : ∀ k ∈ C1, k ∈ C) (s1 : ∀ k ∈ S1, k ∈ S) (c2 : ∀ k ∈ C2, k ∈ C) (s2 : ∀ k ∈ S2, k ∈ S) : fz C S M M2 := ⟨fr_tr h1.1 h2.1 c1 c2, fun k hk => (h2.2 k (fun z => hk (s2 k z))).trans (h1.2 k (fun z => hk (s1 k z)))⟩
theorem fz_mo {C S C1 S1 : List Nat} {M M1 : pm_M} (h1 : fz C1 S1 M M1) (c1 : ∀ k ∈ C1, k ∈ C) (s1 : ∀ k ∈ S1, k ∈ S) : fz C S M M1 := ⟨fr_mo h1.1 c1, fun k hk => h1.2 k (fun z => hk (s1 k z))⟩
theorem fz_fs {S : List Nat} {M M1 : pm_M} (h : fs 87 S M M1) : fz [87] S M M1 := h
theorem fz_87 {C S : List Nat} {M : pm_M} {i : Nat} {x : Int} (hc : 87 ∈ C) (hi : i ∈ S) : fz C S M (pm_ms M 87 i x) := ⟨fr_ms hc, fun k hk => ms_nj M 87 i x (fun z => hk (z ▸ hi))⟩
theorem fz_c {C S : List Nat} {M : pm_M} {c i : Nat} {x : Int} (hc : c ∈ C) (h : c ≠ 87) : fz C S M (pm_ms M c i x) := ⟨fr_ms hc, fun k _ => by rw [ms_nc M c i x (fun z => h z.symm)]⟩
/-- the reference's reader: open signs, frames (top first), waits (top first: joiner, depth), code -/
def RS (Q : pm_M) (o : Nat) (frs : List Int) (ws : List (Int × Int)) (ql : List (Int × Int)) : Prop :=
  Q 87 20 = o ∧ Q 87 21 = frs.length ∧ stk (Q 98) frs ∧ Q 87 24 = ws.length ∧ stk (Q 100) (ws.map Prod.fst) ∧ stk (Q 101) (ws.map Prod.snd) ∧ Q 87 34 = ql.length ∧ cdq (Q 106) (Q 107) 0 ql ∧ Q 87 18 = 0
theorem RS_fz {Q Q' : pm_M} {o : Nat} {frs : List Int} {ws ql : List (Int × Int)} {C S : List Nat} (h : RS Q o frs ws ql) (f : fz C S Q Q') (h98 : 98 ∉ C) (h100 : 100 ∉ C) (h101 : 101 ∉ C) (h106 : 106 ∉ C) (h107 : 107 ∉ C) (s20 : 20 ∉ S) (s21 : 21 ∉ S) (s24 : 24 ∉ S) (s34 : 34 ∉ S) (s18 : 18 ∉ S) : RS Q' o frs ws ql := by
  unfold RS
  rw [f.1 98 h98, f.1 100 h100, f.1 101 h101, f.1 106 h106, f.1 107 h107, f.2 20 s20, f.2 21 s21, f.2 24 s24, f.2 34 s34, f.2 18 s18]
  exact h
theorem q_emits {Q : pm_M} {o : Nat} {frs : List Int} {ws ql : List (Int × Int)} (h : RS Q o frs ws ql) (hl : ql.length < 400) (a b : Int) : ∃ Q', f_Q_emits a b Q = some Q' ∧ RS Q' o frs ws (ql ++ [(a, b)]) ∧ fz [87, 106, 107] [34] Q Q' := by
  obtain ⟨h1, h2, h3, h4, h5, h6, h7, h8, h9⟩ := h
  unfold f_Q_emits
  rw [h7, if_pos (by omega), tn_nat, pbd]
  have e1 : pm_ms Q 106 ql.length a 87 34 = ql.length := by rw [ms_nc _ _ _ _ (by omega)]; exact h7
  rw [e1, if_pos (by omega), tn_nat, pbd, pbd]
  have e2 : pm_ms (pm_ms Q 106 ql.length a) 107 ql.length b 87 34 = ql.length := by rw [ms_nc _ _ _ _ (by omega)]; exact e1
  rw [e2, i_ad_eq (by omega)]
  generalize hQ : pm_ms (pm_ms (pm_ms Q 106 ql.length a) 107 ql.length b) 87 34 ((ql.length : Int) + 1) = Q'
  have f : fz [87, 106, 107] [34] Q Q' := by
    rw [← hQ]
    exact fz_tr (fz_tr (C := [87, 106, 107]) (S := [34]) (fz_c (C := [87, 106, 107]) (S := [34]) (by decide) (by decide)) (fz_c (C := [87, 106, 107]) (S := [34]) (by decide) (by decide)) (by decide) (by decide) (by decide) (by decide)) (fz_87 (C := [87, 106, 107]) (S := [34]) (by decide) (by decide)) (by decide) (by decide) (by decide) (by decide)
  refine ⟨Q', rfl, ⟨by rw [f.2 20 (by decide)]; exact h1, by rw [f.2 21 (by decide)]; exact h2, by rw [f.1 98 (by decide)]; exact h3, by rw [f.2 24 (by decide)]; exact h4, by rw [f.1 100 (by decide)]; exact h5, by rw [f.1 101 (by decide)]; exact h6, ?_, ?_, by rw [f.2 18 (by decide)]; exact h9⟩, f⟩
  · rw [← hQ, ms_at, List.length_append]; rfl
  · rw [← hQ, ms_nc _ 87 _ _ (a := 106) (by omega), ms_nc _ 107 _ _ (a := 106) (by omega), ms_nc _ 87 _ _ (a := 107) (by omega), msc, msc, ms_nc _ 106 _ _ (a := 107) (by omega)]
    exact cdq_snoc h8
def rkq (x : Int) : Int := if x = 407 then 1 else if x = 406 then 2 else if x = 43 then 3 else if x = 45 then 3 else 4
theorem q_rank (x : Int) (M : pm_M) : f_Q_rank x M = some (rkq x) := by
  unfold f_Q_rank rkq
  repeat' split
  all_goals rfl
def zw (ws : List (Int × Int)) : List (Int × Int) := ws.map (fun c => (c.1, 0))
/-- where flushing stops -/
def bar (r : Int) (F : Nat) : List (Int × Int) → Prop
  | [] => True
  | c :: _ => c.2 ≠ F ∨ rkq c.1 < r
theorem q_worksL {r : Int} {o : Nat} {frs : List Int} {ws0 : List (Int × Int)} (hb : bar r frs.length ws0) : ∀ (pend : List (Int × Int)) (n : Nat) (ql : List (Int × Int)) (Q : pm_M), RS Q o frs (pend ++ ws0) ql → (pend ++ ws0).length ≤ 80 → ql.length + pend.length ≤ 400 → (∀ c ∈ pend, c.2 = (frs.length : Int) ∧ r ≤ rkq c.1) → pend.length < n →
    ∃ Q', f_Q_works_L0 n r Q = some Q' ∧ RS Q' o frs ws0 (ql ++ zw pend) ∧ fz [87, 106, 107] [24, 34] Q Q' := by
  intro pend
  induction pend with
  | nil =>
    intro n ql Q h hw hq hp hn
    obtain ⟨n, rfl⟩ : ∃ a, n = a + 1 := ⟨n - 1, by omega⟩
    refine ⟨Q, ?_, by rw [show ql ++ zw [] = ql from List.append_nil _]; exact h, fz_rf _ _ _⟩
    obtain ⟨h1, h2, h3, h4, h5, h6, h7, h8, h9⟩ := h
    rw [List.nil_append] at h4 h5 h6 hw
    rw [f_Q_works_L0, h4]
    cases ws0 with
    | nil => rw [if_pos (by show ((0 : Nat) : Int) ≤ 0; omega)]
    | cons c w =>
      rw [List.length_cons] at hw ⊢
      rw [if_neg (by omega), i_sb_eq (by omega), show ((w.length + 1 : Nat) : Int) - 1 = w.length by omega, if_pos (by omega), tn_nat, h2]
      have k1 : Q 101 w.length = c.2 := by have := h6.1; rw [List.length_map] at this; exact this
      have k2 : Q 100 w.length = c.1 := by have := h5.1; rw [List.length_map] at this; exact this
      rw [k1, k2, q_rank, ob]
      by_cases hd : c.2 = (frs.length : Int)
      · rw [if_pos hd, if_pos (by omega), if_pos (by rcases hb with z | z; exact absurd hd z; exact z)]
      · rw [if_neg hd]
  | cons c w ih =>
    intro n ql Q h hw hq hp hn
    obtain ⟨n, rfl⟩ : ∃ a, n = a + 1 := ⟨n - 1, by omega⟩
    have hS := h
    obtain ⟨h1, h2, h3, h4, h5, h6, h7, h8, h9⟩ := h
    rw [List.cons_append, List.length_cons] at h4 hw
    rw [List.cons_append, List.map_cons] at h5 h6
    rw [List.length_cons] at hq hn
    have hc := hp c (List.mem_cons_self ..)
    have k1 : Q 101 (w ++ ws0).length = c.2 := by have := h6.1; rw [List.length_map] at this; exact this
    have k2 : Q 100 (w ++ ws0).length = c.1 := by have := h5.1; rw [List.length_map] at this; exact this
    rw [f_Q_works_L0, h4, if_neg (by omega), i_sb_eq (by omega), show (((w ++ ws0).length + 1 : Nat) : Int) - 1 = (w ++ ws0).length by omega, if_pos (by omega), tn_nat, h2, k1, k2, q_rank, ob, if_pos hc.1, if_pos (by omega), if_neg (by omega), pbd]
    generalize hQ1 : pm_ms Q 87 24 ((w ++ ws0).length : Int) = Q1
    have f1 : fz [87] [24] Q Q1 := by rw [← hQ1]; exact fz_87 (by decide) (by decide)
    have e24 : Q1 87 24 = (w ++ ws0).length := by rw [← hQ1, ms_at]
    have R1 : RS Q1 o frs (w ++ ws0) ql := ⟨by rw [f1.2 20 (by decide)]; exact h1, by rw [f1.2 21 (by decide)]; exact h2, by rw [f1.1 98 (by decide)]; exact h3, e24, by rw [f1.1 100 (by decide)]; exact h5.2, by rw [f1.1 101 (by decide)]; exact h6.2, by rw [f1.2 34 (by decide)]; exact h7, by rw [f1.1 106 (by decide), f1.1 107 (by decide)]; exact h8, by rw [f1.2 18 (by decide)]; exact h9⟩
    obtain ⟨Q2, a1, a2, a3⟩ := q_emits R1 (by omega) c.1 0
    rw [e24, if_pos (by omega), tn_nat, show Q1 100 (w ++ ws0).length = c.1 by rw [f1.1 100 (by decide)]; exact k2, a1, ob]
    obtain ⟨Q3, b1, b2, b3⟩ := ih n (ql ++ [(c.1, 0)]) Q2 a2 (by omega) (by rw [List.length_append]; show ql.length + 1 + w.length ≤ 400; omega) (fun d hd => hp d (List.mem_cons_of_mem _ hd)) (by omega)
    refine ⟨Q3, b1, ?_, fz_tr (fz_tr (C := [87, 106, 107]) (S := [24, 34]) f1 a3 (by decide) (by decide) (by decide) (by decide)) b3 (by decide) (by decide) (by decide) (by decide)⟩
    rw [List.append_assoc] at b2
    exact b2
theorem q_works {Q : pm_M} {r : Int} {o : Nat} {frs : List Int} {pend ws0 ql : List (Int × Int)} (h : RS Q o frs (pend ++ ws0) ql) (hb : bar r frs.length ws0) (hw : (pend ++ ws0).length ≤ 80) (hq : ql.length + pend.length ≤ 400) (hp : ∀ c ∈ pend, c.2 = (frs.length : Int) ∧ r ≤ rkq c.1) : ∃ Q', f_Q_works r Q = some Q' ∧ RS Q' o frs ws0 (ql ++ zw pend) ∧ fz [87, 106, 107] [24, 34] Q Q' := by
  obtain ⟨Q', a1, a2⟩ := q_worksL hb pend pm_F ql Q h hw hq hp (by rw [List.length_append] at hw; unfold pm_F; omega)
  refine ⟨Q', ?_, a2⟩
  unfold f_Q_works
  rw [a1, ob]
